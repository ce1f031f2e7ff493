/-! ===== PURE HALF. what a scene says: plots, gauges, readings, which work ===== -/
/-- how many plots the first rows have -/
def pcn (fr to : Nat → Int32) : Nat → Int32
  | 0 => 0
  | y + 1 => pcn fr to y + (if to y < fr y then 0 else (to y - fr y) + 1)
theorem X1_rowHasPlots (S : SceneV) {y : Nat} (hy : y < 16) : f_X1_rowHasPlots S (nI y) = some (decide (¬ S.2.1 y < S.1 y)) := by
  unfold f_X1_rowHasPlots
  simp only [gd_t (ix_n hy (by omega : (16 : Nat) ≤ 65536)), cl_n (show y < 65536 by omega)]
  by_cases h : S.2.1 y < S.1 y
  · rw [if_pos h]; simp [h]
  · rw [if_neg h]; simp [h]
theorem X1_plotCount (S : SceneV) : f_X1_plotCount S = some (pcn S.1 S.2.1 16) := by
  have h := lp_F (body := f_X1_plotCount_L4 S) (fun i s => (s, nI i)) 16 (pcn S.1 S.2.1) id (fun i hi => by
    unfold f_X1_plotCount_L4
    have c : ¬ (16 : Int32) ≤ nI i := by rw [show (16 : Int32) = nI 16 from rfl, n_le (by omega) (by omega)]; omega
    simp only [if_neg c, X1_rowHasPlots S hi, bd_some, gd_t (ix_n hi (by omega : (16 : Nat) ≤ 65536)), cl_n (show i < 65536 by omega), b2i_0, decide_eq_false_iff_not, Decidable.not_not, nI_1]
    by_cases h : S.2.1 i < S.1 i
    · rw [if_pos h]; simp only [bd_some, pcn, if_pos h, Int32.add_zero]
    · rw [if_neg h]; simp only [bd_some, pcn, if_neg h]) (by
    unfold f_X1_plotCount_L4
    have c : (16 : Int32) ≤ nI 16 := by decide
    simp only [if_pos c]; rfl) fu 0 (by omega) (fu_lt (by omega))
  unfold f_X1_plotCount
  rw [show lp (f_X1_plotCount_L4 S) fu (0, 0) = some (pcn S.1 S.2.1 16) from h]
  rfl
theorem X5_plots (M : ModelV) : f_X5_plots M = some (pcn M.1 M.2.1 16) := by
  have h := lp_F (body := f_X5_plots_L4 M) (fun i s => (s, nI i)) 16 (pcn M.1 M.2.1) id (fun i hi => by
    unfold f_X5_plots_L4
    have c : ¬ (16 : Int32) ≤ nI i := by rw [show (16 : Int32) = nI 16 from rfl, n_le (by omega) (by omega)]; omega
    simp only [if_neg c, gd_t (ix_n hi (by omega : (16 : Nat) ≤ 65536)), cl_n (show i < 65536 by omega), nI_1]
    by_cases h : M.2.1 i < M.1 i
    · rw [if_pos h]; simp only [bd_some, pcn, if_pos h]
    · rw [if_neg h]; simp only [bd_some, pcn, if_neg h]) (by
    unfold f_X5_plots_L4
    have c : (16 : Int32) ≤ nI 16 := by decide
    simp only [if_pos c]; rfl) fu 0 (by omega) (fu_lt (by omega))
  unfold f_X5_plots
  rw [show lp (f_X5_plots_L4 M) fu (0, 0) = some (pcn M.1 M.2.1 16) from h]
  rfl
theorem pcn_eq {fr to fr' to' : Nat → Int32} : ∀ {n : Nat}, (∀ y, y < n → fr y = fr' y ∧ to y = to' y) → pcn fr to n = pcn fr' to' n
  | 0, _ => rfl
  | n + 1, h => by
    rw [pcn, pcn, pcn_eq (fun y hy => h y (by omega)), (h n (by omega)).1, (h n (by omega)).2]
/-! which day a gauge is out -/
def ob (w : Int64) (d : Nat) : Bool := !decide (lg_cmp (w &&& ((1 : Int64) <<< ((nI d).toInt64 &&& 63))) 0 = 0)
theorem ix_day {g d : Nat} (hg : g < 8) (hd : d < 64) : nI g * 64 + nI d = nI (g * 64 + d) := by
  rw [show (64 : Int32) = nI 64 from rfl, pk_mul, nI_add]
theorem ix_day' {g d : Nat} (hg : g < 8) (hd : d < 64) : 64 * nI g + nI d = nI (g * 64 + d) := by
  rw [show (64 : Int32) = nI 64 from rfl, pk_mul, nI_add, Nat.mul_comm]
theorem X1_readingOf (S : SceneV) {g d : Nat} (hg : g < 8) (hd : d < 64) : f_X1_readingOf S (nI g) (nI d) = some (S.2.2.2.2.2.2.2 (g * 64 + d)) := by
  unfold f_X1_readingOf
  rw [ix_day hg hd, gd_t (ix_n (show g * 64 + d < 512 by omega) (by omega)), cl_n (by omega)]
/-- which gauges work: the first g of them -/
def wkS (S : SceneV) (d : Nat) : Nat → Int32
  | 0 => 0
  | g + 1 => if ob (S.2.2.2.2.2.2.1 g) d = false ∧ S.2.2.2.2.2.2.2 (g * 64 + d) ≠ -6 then wkS S d g ||| ((1 : Int32) <<< (nI g &&& 31)) else wkS S d g
theorem X1_workingOn (S : SceneV) {n d : Nat} (hn : S.2.2.1 = nI n) (h8 : n ≤ 8) (hd : d < 64) : f_X1_workingOn S (nI d) = some (wkS S d n) := by
  have h := lp_F (body := f_X1_workingOn_L4 S (nI d)) (fun i s => (s, nI i)) n (wkS S d) id (fun i hi => by
    unfold f_X1_workingOn_L4
    have c : ¬ S.2.2.1 ≤ nI i := by rw [hn, n_le (by omega) (by omega)]; omega
    simp only [if_neg c, gd_t (ix_n (show i < 8 by omega) (by omega : (8 : Nat) ≤ 65536)), cl_n (show i < 65536 by omega), X1_readingOf S (show i < 8 by omega) hd, bd_some, nI_1, f_X4_with]
    by_cases h1 : lg_cmp (S.2.2.2.2.2.2.1 i &&& ((1 : Int64) <<< ((nI d).toInt64 &&& 63))) 0 = 0
    · have e1 : ob (S.2.2.2.2.2.2.1 i) d = false := by simp [ob, h1]
      by_cases h2 : S.2.2.2.2.2.2.2 (i * 64 + d) = -6
      · simp only [h1, bd_some, h2, wkS, e1, ne_eq, not_true_eq_false, and_false, reduceIte]
      · simp only [h1, bd_some, wkS, e1, h2, ne_eq, not_false_eq_true, and_true, reduceIte]
    · have e1 : ob (S.2.2.2.2.2.2.1 i) d = true := by simp [ob, h1]
      have z : ¬ (1 : Int32) = 0 := by decide
      simp only [h1, bd_some, z, wkS, e1, Bool.true_eq_false, false_and, reduceIte]) (by
    unfold f_X1_workingOn_L4
    have c : S.2.2.1 ≤ nI n := by rw [hn, n_le (by omega) (by omega)]; omega
    simp only [if_pos c]; rfl) fu 0 (by omega) (fu_lt (by omega))
  unfold f_X1_workingOn
  rw [show lp (f_X1_workingOn_L4 S (nI d)) fu (0, 0) = some (wkS S d n) from h]
  rfl
/-! the rules that a scene of the class keeps (n gauges), and what the reference holds beside it -/
abbrev sPx (S : SceneV) : Nat → Int32 := S.2.2.2.1
abbrev sPy (S : SceneV) : Nat → Int32 := S.2.2.2.2.1
abbrev sRe (S : SceneV) : Nat → Int32 := S.2.2.2.2.2.1
abbrev sOut (S : SceneV) : Nat → Int64 := S.2.2.2.2.2.2.1
abbrev sRd (S : SceneV) : Nat → Int32 := S.2.2.2.2.2.2.2
abbrev rdP (x : Int32) : Prop := x = -6 ∨ (0 ≤ x.toInt ∧ x.toInt ≤ 9999)
/-- a scene with n gauges -/
def SI (S : SceneV) (n : Nat) : Prop :=
  n ≤ 8 ∧ S.2.2.1 = nI n ∧ (∀ y, y < 16 → okP 16 (S.1 y) ∧ okP 16 (S.2.1 y)) ∧ (∀ g, g < n → plP (sPx S g) ∧ plP (sPy S g)) ∧ (∀ g, g < n → -400 ≤ (sRe S g).toInt ∧ (sRe S g).toInt ≤ 400) ∧ (∀ g d, g < n → d < 64 → rdP (sRd S (g * 64 + d))) ∧
  (∀ g, n ≤ g → g < 8 → sRe S g = 0 ∧ sOut S g = 0 ∧ ∀ d, d < 64 → sRd S (g * 64 + d) = -6) ∧ (∀ i j, i < n → j < n → sPx S i = sPx S j → sPy S i = sPy S j → i = j)
/-- rows, places, reaches, days out, readings of the reference are those of the scene -/
def MR (S : SceneV) (n : Nat) (fr to : Nat → Int32) (mn : Int32) (px py re iso rd : Nat → Int32) : Prop :=
  (∀ y, y < 16 → fr y = S.1 y ∧ to y = S.2.1 y) ∧ mn = nI n ∧ ∀ g, g < n → px g = sPx S g ∧ py g = sPy S g ∧ re g = sRe S g ∧ ∀ d, d < 64 → iso (g * 64 + d) = b2i (ob (sOut S g) d) ∧ rd (g * 64 + d) = sRd S (g * 64 + d)
abbrev MRel (S : SceneV) (n : Nat) (M : ModelV) : Prop := MR S n M.1 M.2.1 M.2.2.1 M.2.2.2.1 M.2.2.2.2.1 M.2.2.2.2.2.1 M.2.2.2.2.2.2.1 M.2.2.2.2.2.2.2.1
theorem rd_neg {x : Int32} (h : rdP x) : (x < 0) ↔ x = -6 := by
  rw [i_lt, t0]
  rcases h with h | h
  · rw [h]; simp
  · constructor
    · intro q; omega
    · intro q; rw [q] at h; exact absurd h.1 (by decide)
theorem X5_workingOn {S : SceneV} {n d : Nat} {M : ModelV} (hI : SI S n) (hM : MRel S n M) (hd : d < 64) : f_X5_workingOn M (nI d) = some (wkS S d n) := by
  have h8 := hI.1
  have h := lp_F (body := f_X5_workingOn_L4 M (nI d)) (fun i s => (s, nI i)) n (wkS S d) id (fun i hi => by
    unfold f_X5_workingOn_L4
    obtain ⟨-, -, -, hq⟩ := hM.2.2 i hi
    have c : ¬ M.2.2.1 ≤ nI i := by rw [hM.2.1, n_le (by omega) (by omega)]; omega
    simp only [if_neg c, ix_day' (show i < 8 by omega) hd, gd_t (ix_n (show i * 64 + d < 512 by omega) (by omega : (512 : Nat) ≤ 65536)), cl_n (show i * 64 + d < 65536 by omega), (hq d hd).1, (hq d hd).2, b2i_0, nI_1]
    have hr := rd_neg (hI.2.2.2.2.2.1 i d hi hd)
    by_cases h1 : ob (sOut S i) d = false
    · by_cases h2 : sRd S (i * 64 + d) = -6
      · simp only [show ((-6 : Int32) < 0) = True from eq_true (by decide), bd_some, wkS, h1, h2, ne_eq, not_true_eq_false, and_false, reduceIte, Int32.or_zero]
      · simp only [hr, bd_some, wkS, h1, h2, ne_eq, not_false_eq_true, and_true, reduceIte]
    · have h1' : ob (sOut S i) d = true := eq_true_of_ne_false h1
      simp only [bd_some, wkS, h1', Bool.true_eq_false, false_and, reduceIte, Int32.or_zero]) (by
    unfold f_X5_workingOn_L4
    have c : M.2.2.1 ≤ nI n := by rw [hM.2.1, n_le (by omega) (by omega)]; omega
    simp only [if_pos c]; rfl) fu 0 (by omega) (fu_lt (by omega))
  unfold f_X5_workingOn
  rw [show lp (f_X5_workingOn_L4 M (nI d)) fu (0, 0) = some (wkS S d n) from h]
  rfl
