/-! ===== PURE HALF. which gauge stands where ===== -/
abbrev atP (S : SceneV) (x y : Int32) (g : Nat) : Prop := sPx S g = x ∧ sPy S g = y
def lastM (S : SceneV) (x y : Int32) : Nat → Option Nat
  | 0 => none
  | g + 1 => if atP S x y g then some g else lastM S x y g
def orI (o : Option Nat) (e : Int32) : Int32 := match o with
  | none => e
  | some g => nI g
theorem lastM_lt {S : SceneV} {x y : Int32} {g : Nat} : ∀ {n : Nat}, lastM S x y n = some g → g < n ∧ atP S x y g
  | 0, h => by cases h
  | n + 1, h => by
    rw [lastM] at h
    split at h
    · rename_i q; cases h; exact ⟨by omega, q⟩
    · have := lastM_lt h; exact ⟨by omega, this.2⟩
theorem lastM_none {S : SceneV} {x y : Int32} : ∀ {n : Nat}, lastM S x y n = none → ∀ g, g < n → ¬ atP S x y g
  | 0, _, g, hg => by omega
  | n + 1, h, g, hg => by
    rw [lastM] at h
    split at h
    · cases h
    · rename_i q
      by_cases e : g = n
      · subst e; exact q
      · exact lastM_none h g (by omega)
theorem lastM_u {S : SceneV} {x y : Int32} {n i : Nat} (hu : ∀ i j, i < n → j < n → sPx S i = sPx S j → sPy S i = sPy S j → i = j) (hi : atP S x y i) : ∀ {m : Nat}, i < m → m ≤ n → lastM S x y m = some i
  | 0, h, _ => by omega
  | m + 1, h, hm => by
    rw [lastM]
    by_cases e : i = m
    · subst e; rw [if_pos hi]
    · have q : ¬ atP S x y m := fun q => e (hu i m (by omega) (by omega) (hi.1.trans q.1.symm) (hi.2.trans q.2.symm))
      rw [if_neg q]
      exact lastM_u hu hi (by omega) (by omega)
theorem gaugeAt_lp {S : SceneV} {n : Nat} (hI : SI S n) (x y : Int32) : ∀ (k i fuel : Nat), n - i = k → i ≤ n → lastM S x y i = none → k < fuel → lp (f_X1_gaugeAt_L2 S x y) fuel (nI i) = some (match lastM S x y n with | none => .inl () | some g => .inr (nI g)) := by
  have h8 := hI.1
  have hn := hI.2.1
  have hu := hI.2.2.2.2.2.2.2
  intro k
  induction k with
  | zero =>
    intro i fuel h1 h2 h3 h4
    have e : i = n := by omega
    subst e
    obtain ⟨f', rfl⟩ : ∃ f', fuel = f' + 1 := ⟨fuel - 1, by omega⟩
    rw [h3]
    apply lp_end
    unfold f_X1_gaugeAt_L2
    rw [if_pos (by rw [hn, n_le (by omega) (by omega)]; omega)]
  | succ k ih =>
    intro i fuel h1 h2 h3 h4
    obtain ⟨f', rfl⟩ : ∃ f', fuel = f' + 1 := ⟨fuel - 1, by omega⟩
    have c : ¬ S.2.2.1 ≤ nI i := by rw [hn, n_le (by omega) (by omega)]; omega
    by_cases h : atP S x y i
    · rw [lastM_u hu h (show i < n by omega) (Nat.le_refl n)]
      apply lp_end
      unfold f_X1_gaugeAt_L2
      rw [if_neg c, gd_t (ix_n (show i < 8 by omega) (by omega)), cl_n (by omega), if_pos h.1, gd_t (ix_n (show i < 8 by omega) (by omega)), if_pos h.2]
    · have e : f_X1_gaugeAt_L2 S x y (nI i) = some (.inl (nI (i + 1))) := by
        unfold f_X1_gaugeAt_L2
        rw [if_neg c, gd_t (ix_n (show i < 8 by omega) (by omega)), cl_n (by omega), gd_t (ix_n (show i < 8 by omega) (by omega)), nI_1]
        by_cases h5 : sPx S i = x
        · rw [if_pos h5, if_neg (fun q => h ⟨h5, q⟩)]
        · rw [if_neg h5]
      rw [lp_go e]
      exact ih (i + 1) f' (by omega) (by omega) (by rw [lastM, if_neg h, h3]) (by omega)
theorem X1_gaugeAt {S : SceneV} {n : Nat} (hI : SI S n) (x y : Int32) : f_X1_gaugeAt S x y = some (orI (lastM S x y n) (-1)) := by
  have h8 := hI.1
  unfold f_X1_gaugeAt
  rw [show (0 : Int32) = nI 0 from rfl, gaugeAt_lp hI x y n 0 fu rfl (by omega) rfl (fu_lt (by omega)), bd_some]
  cases lastM S x y n <;> rfl
theorem X5_gaugeAt {S : SceneV} {n : Nat} {M : ModelV} (hI : SI S n) (hM : MRel S n M) (x y : Int32) : f_X5_gaugeAt M x y = some (orI (lastM S x y n) (-6)) := by
  have h8 := hI.1
  have h := lp_F (body := f_X5_gaugeAt_L6 M x y) (fun i s => (s, nI i)) n (fun i => orI (lastM S x y i) (-6)) id (fun i hi => by
    unfold f_X5_gaugeAt_L6
    obtain ⟨e1, e2, -, -⟩ := hM.2.2 i hi
    have c : ¬ M.2.2.1 ≤ nI i := by rw [hM.2.1, n_le (by omega) (by omega)]; omega
    simp only [if_neg c, gd_t (ix_n (show i < 8 by omega) (by omega : (8 : Nat) ≤ 65536)), cl_n (show i < 65536 by omega), e1, e2, nI_1, lastM]
    by_cases h1 : sPx S i = x
    · by_cases h2 : sPy S i = y
      · rw [if_pos h1, if_pos h2, if_pos ⟨h1, h2⟩]; rfl
      · rw [if_pos h1, if_neg h2, if_neg (fun q => h2 q.2)]; rfl
    · rw [if_neg h1, if_neg (fun q => h1 q.1)]; rfl) (by
    unfold f_X5_gaugeAt_L6
    have c : M.2.2.1 ≤ nI n := by rw [hM.2.1, n_le (by omega) (by omega)]; omega
    simp only [if_pos c]; rfl) fu 0 (by omega) (fu_lt (by omega))
  unfold f_X5_gaugeAt
  rw [show lp (f_X5_gaugeAt_L6 M x y) fu (-6, 0) = some (orI (lastM S x y n) (-6)) from h]
  rfl
theorem X1_knows {S : SceneV} {n : Nat} (hn : S.2.2.1 = nI n) (h8 : n ≤ 8) (x : Int32) : f_X1_knows S x = some (decide (okP n x)) := by
  unfold f_X1_knows
  simp only [hn, i_lt, i_le, t0, nI_toInt (show n < 2 ^ 31 by omega)]
  repeat' split
  all_goals first | exact congrArg some (decide_eq_false (by omega)).symm | exact congrArg some (decide_eq_true (by omega)).symm
theorem X5_isGauge {n : Nat} {M : ModelV} (hn : M.2.2.1 = nI n) (h8 : n ≤ 8) (x : Int32) : f_X5_isGauge M x = some (decide (okP n x)) := by
  unfold f_X5_isGauge
  have e : (nI n - 1).toInt = (n : Int) - 1 := by
    have : ∀ n, n ≤ 8 → (nI n - 1).toInt = (n : Int) - 1 := by decide
    exact this n h8
  rw [hn, X5_in, e, t0, bd_some]
  congr 1
  apply decide_eq_decide.mpr
  show _ ↔ 0 ≤ x.toInt ∧ x.toInt < n
  omega
theorem X1_hasPlot (S : SceneV) (x : Int32) {y : Nat} (hy : y < 16) : f_X1_hasPlot S x (nI y) = some (decide (¬ x < S.1 y ∧ ¬ S.2.1 y < x)) := by
  unfold f_X1_hasPlot
  simp only [gd_t (ix_n hy (by omega : (16 : Nat) ≤ 65536)), cl_n (show y < 65536 by omega)]
  by_cases h : x < S.1 y
  · simp [h]
  · by_cases h2 : S.2.1 y < x <;> simp [h, h2]
theorem X1_farFrom (S : SceneV) {g : Nat} (x y : Int32) (hg : g < 8) : f_X1_farFrom S (nI g) x y = some ((x - sPx S g) * (x - sPx S g) + (y - sPy S g) * (y - sPy S g)) := by
  unfold f_X1_farFrom
  simp only [gd_t (ix_n hg (by omega : (8 : Nat) ≤ 65536)), cl_n (show g < 65536 by omega)]
