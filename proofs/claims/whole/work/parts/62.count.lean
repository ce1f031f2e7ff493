/-! ===== PURE HALF. count ===== -/
theorem n_sub {a b : Nat} (h : b ≤ a) : nI a - nI b = nI (a - b) := by
  have e : nI a = nI (a - b) + nI b := by rw [nI_add]; congr 1; omega
  rw [e, Int32.add_sub_cancel]
theorem X5_count_out (M : ModelV) {w : Int32} (e0 : ¬ w = 0) (e1 : ¬ w = 1) (e2 : ¬ w = 2) (e3 : ¬ w = 3) (e4 : ¬ w = 4) (e5 : ¬ w = 5) (e6 : ¬ w = 6) (h1 : ¬ (10 ≤ w.toInt ∧ w.toInt ≤ 25)) (h2 : ¬ (30 ≤ w.toInt ∧ w.toInt ≤ 45)) : f_X5_count M w = some (-2) := by
  unfold f_X5_count
  rw [if_neg e0, if_neg e1, if_neg e2, if_neg e3, if_neg e4, if_neg e5, if_neg e6, X5_in, X5_in, show (10 : Int32).toInt = 10 by decide, show (25 : Int32).toInt = 25 by decide, show (30 : Int32).toInt = 30 by decide, show (45 : Int32).toInt = 45 by decide, decide_eq_false h1, decide_eq_false h2, bd_some, if_pos (show b2i false = 0 from rfl), bd_some, if_pos (show b2i false = 0 from rfl)]
theorem X5_count_from {S : SceneV} {n j : Nat} {M : ModelV} (hM : MRel S n M) (hj : j < 16) : f_X5_count M (nI (j + 10)) = some (if S.2.1 j < S.1 j then -6 else S.1 j) := by
  have e : ∀ i, i < 10 → ¬ nI (j + 10) = nI i := fun i hi q => by have := (n_eq (by omega) (by omega)).mp q; omega
  have hw : 10 ≤ (nI (j + 10)).toInt ∧ (nI (j + 10)).toInt ≤ 25 := by rw [nI_toInt (by omega)]; omega
  unfold f_X5_count
  rw [if_neg (show ¬ nI (j + 10) = 0 from e 0 (by omega)), if_neg (show ¬ nI (j + 10) = 1 from e 1 (by omega)), if_neg (show ¬ nI (j + 10) = 2 from e 2 (by omega)), if_neg (show ¬ nI (j + 10) = 3 from e 3 (by omega)), if_neg (show ¬ nI (j + 10) = 4 from e 4 (by omega)), if_neg (show ¬ nI (j + 10) = 5 from e 5 (by omega)), if_neg (show ¬ nI (j + 10) = 6 from e 6 (by omega)), X5_in, show (10 : Int32).toInt = 10 by decide, show (25 : Int32).toInt = 25 by decide, decide_eq_true hw, bd_some, if_neg (show ¬ b2i true = 0 by decide), show nI (j + 10) - 10 = nI j from n_sub (a := j + 10) (b := 10) (by omega)]
  simp only [gd_t (ix_n hj (by omega : (16 : Nat) ≤ 65536)), cl_n (show j < 65536 by omega), (hM.1 j hj).1, (hM.1 j hj).2]
  split <;> rfl
theorem X5_count_to {S : SceneV} {n j : Nat} {M : ModelV} (hM : MRel S n M) (hj : j < 16) : f_X5_count M (nI (j + 30)) = some (if S.2.1 j < S.1 j then -6 else S.2.1 j) := by
  have e : ∀ i, i < 10 → ¬ nI (j + 30) = nI i := fun i hi q => by have := (n_eq (by omega) (by omega)).mp q; omega
  have hw1 : ¬ (10 ≤ (nI (j + 30)).toInt ∧ (nI (j + 30)).toInt ≤ 25) := by rw [nI_toInt (by omega)]; omega
  have hw : 30 ≤ (nI (j + 30)).toInt ∧ (nI (j + 30)).toInt ≤ 45 := by rw [nI_toInt (by omega)]; omega
  unfold f_X5_count
  rw [if_neg (show ¬ nI (j + 30) = 0 from e 0 (by omega)), if_neg (show ¬ nI (j + 30) = 1 from e 1 (by omega)), if_neg (show ¬ nI (j + 30) = 2 from e 2 (by omega)), if_neg (show ¬ nI (j + 30) = 3 from e 3 (by omega)), if_neg (show ¬ nI (j + 30) = 4 from e 4 (by omega)), if_neg (show ¬ nI (j + 30) = 5 from e 5 (by omega)), if_neg (show ¬ nI (j + 30) = 6 from e 6 (by omega)), X5_in, X5_in, show (10 : Int32).toInt = 10 by decide, show (25 : Int32).toInt = 25 by decide, show (30 : Int32).toInt = 30 by decide, show (45 : Int32).toInt = 45 by decide, decide_eq_false hw1, decide_eq_true hw, bd_some, if_pos (show b2i false = 0 from rfl), bd_some, if_neg (show ¬ b2i true = 0 by decide), show nI (j + 30) - 30 = nI j from n_sub (a := j + 30) (b := 30) (by omega)]
  simp only [gd_t (ix_n hj (by omega : (16 : Nat) ≤ 65536)), cl_n (show j < 65536 by omega), (hM.1 j hj).1, (hM.1 j hj).2]
  split <;> rfl
theorem l_lt {m c : Nat} (hm : m < 2 ^ 31) (hc : c < 2 ^ 31) (h : m < c) : nI m < nI c := (n_lt hm hc).mpr h
theorem l_nlt {m c : Nat} (hm : m < 2 ^ 31) (hc : c < 2 ^ 31) (h : c ≤ m) : ¬ nI m < nI c := fun q => by have := (n_lt hm hc).mp q; omega
theorem X4_count_from (R : RcV) {j : Nat} (hj : j < 16) : f_X4_count R (nI (j + 10)) = some (if R.1.2.1 j < R.1.1 j then -6 else R.1.1 j) := by
  unfold f_X4_count
  rw [if_neg (show ¬ nI (j + 10) < 10 from l_nlt (c := 10) (by omega) (by omega) (by omega)), if_neg (show ¬ 26 ≤ nI (j + 10) from fun q => by have := (n_le (a := 26) (by omega) (by omega)).mp q; omega), show nI (j + 10) - 10 = nI j from n_sub (a := j + 10) (b := 10) (by omega), X1_rowHasPlots R.1 hj, bd_some, gd_t (ix_n hj (by omega)), cl_n (by omega)]
  by_cases q : R.1.2.1 j < R.1.1 j
  · rw [decide_eq_false (not_not_intro q), if_pos (show b2i false = 0 from rfl), if_pos q]
  · rw [decide_eq_true q, if_neg (show ¬ b2i true = 0 by decide), if_neg q]
theorem X4_count_to (R : RcV) {j : Nat} (hj : j < 16) : f_X4_count R (nI (j + 30)) = some (if R.1.2.1 j < R.1.1 j then -6 else R.1.2.1 j) := by
  unfold f_X4_count
  rw [if_neg (show ¬ nI (j + 30) < 10 from l_nlt (c := 10) (by omega) (by omega) (by omega)), if_pos (show 26 ≤ nI (j + 30) from (n_le (a := 26) (by omega) (by omega)).mpr (by omega)), if_neg (show ¬ nI (j + 30) < 30 from l_nlt (c := 30) (by omega) (by omega) (by omega)), if_neg (show ¬ 46 ≤ nI (j + 30) from fun q => by have := (n_le (a := 46) (by omega) (by omega)).mp q; omega), show nI (j + 30) - 30 = nI j from n_sub (a := j + 30) (b := 30) (by omega), X1_rowHasPlots R.1 hj, bd_some, gd_t (ix_n hj (by omega)), cl_n (by omega)]
  by_cases q : R.1.2.1 j < R.1.1 j
  · rw [decide_eq_false (not_not_intro q), if_pos (show b2i false = 0 from rfl), if_pos q]
  · rw [decide_eq_true q, if_neg (show ¬ b2i true = 0 by decide), if_neg q]
theorem X4_count_out (R : RcV) {w : Int32} (e0 : ¬ w = 0) (e1 : ¬ w = 1) (e2 : ¬ w = 2) (e3 : ¬ w = 3) (e4 : ¬ w = 4) (e5 : ¬ w = 5) (e6 : ¬ w = 6) (h1 : ¬ (10 ≤ w.toInt ∧ w.toInt ≤ 25)) (h2 : ¬ (30 ≤ w.toInt ∧ w.toInt ≤ 45)) : f_X4_count R w = some (-2) := by
  unfold f_X4_count
  simp only [if_neg e0, if_neg e1, if_neg e2, if_neg e3, if_neg e4, if_neg e5, if_neg e6]
  have a1 : w < 10 ↔ w.toInt < 10 := by rw [i_lt, show (10 : Int32).toInt = 10 by decide]
  have a2 : w < 30 ↔ w.toInt < 30 := by rw [i_lt, show (30 : Int32).toInt = 30 by decide]
  have a3 : 26 ≤ w ↔ 26 ≤ w.toInt := by rw [i_le, show (26 : Int32).toInt = 26 by decide]
  have a4 : 46 ≤ w ↔ 46 ≤ w.toInt := by rw [i_le, show (46 : Int32).toInt = 46 by decide]
  by_cases q1 : w.toInt < 10
  · rw [if_pos (a1.mpr q1), if_pos (a2.mpr (by omega))]
  · rw [if_neg (fun z => q1 (a1.mp z)), if_pos (a3.mpr (by omega))]
    by_cases q2 : w.toInt < 30
    · rw [if_pos (a2.mpr q2)]
    · rw [if_neg (fun z => q2 (a2.mp z)), if_pos (a4.mpr (by omega))]
theorem sm_count {R : RcV} {M : ModelV} (h : Rel R M) (w : Int32) : Se (f_X4_count R w) (f_X5_count M w) := by
  obtain ⟨n, hI, hM, hS, hG⟩ := h
  obtain ⟨c, h1, h2, h3, h4, h5, h6, -⟩ := hS
  obtain ⟨b0, b1, i0, i1, iw, -, -⟩ := hG
  by_cases e0 : w = 0
  · subst e0
    unfold f_X4_count f_X5_count
    rw [if_pos (show (0 : Int32) < 10 by decide), if_pos (show (0 : Int32) < 30 by decide), if_pos (show (0 : Int32) = 0 from rfl), if_pos (show (0 : Int32) = 0 from rfl)]
    exact ⟨_, rfl, congrArg some (hM.2.1.trans hI.2.1.symm)⟩
  by_cases e1 : w = 1
  · subst e1
    unfold f_X4_count f_X5_count
    rw [if_pos (show (1 : Int32) < 10 by decide), if_pos (show (1 : Int32) < 30 by decide), if_neg (show ¬ (1 : Int32) = 0 by decide), if_pos (show (1 : Int32) = 1 from rfl), if_neg (show ¬ (1 : Int32) = 0 by decide), if_pos (show (1 : Int32) = 1 from rfl)]
    rw [X1_plotCount, X5_plots, bd_some, bd_some, pcn_M hM]
    exact Se_same _
  by_cases e2 : w = 2
  · subst e2
    unfold f_X4_count f_X5_count
    rw [if_pos (show (2 : Int32) < 10 by decide), if_pos (show (2 : Int32) < 30 by decide), if_neg (show ¬ (2 : Int32) = 0 by decide), if_neg (show ¬ (2 : Int32) = 1 by decide), if_pos (show (2 : Int32) = 2 from rfl), if_neg (show ¬ (2 : Int32) = 0 by decide), if_neg (show ¬ (2 : Int32) = 1 by decide), if_pos (show (2 : Int32) = 2 from rfl)]
    exact ⟨_, rfl, congrArg some (h3.trans h2.symm)⟩
  by_cases e3 : w = 3
  · subst e3
    unfold f_X4_count f_X5_count
    rw [if_pos (show (3 : Int32) < 10 by decide), if_pos (show (3 : Int32) < 30 by decide), if_neg (show ¬ (3 : Int32) = 0 by decide), if_neg (show ¬ (3 : Int32) = 1 by decide), if_neg (show ¬ (3 : Int32) = 2 by decide), if_pos (show (3 : Int32) = 3 from rfl), if_neg (show ¬ (3 : Int32) = 0 by decide), if_neg (show ¬ (3 : Int32) = 1 by decide), if_neg (show ¬ (3 : Int32) = 2 by decide), if_pos (show (3 : Int32) = 3 from rfl)]
    exact ⟨_, rfl, congrArg some h4.symm⟩
  by_cases e4 : w = 4
  · subst e4
    unfold f_X4_count f_X5_count
    rw [if_pos (show (4 : Int32) < 10 by decide), if_pos (show (4 : Int32) < 30 by decide), if_neg (show ¬ (4 : Int32) = 0 by decide), if_neg (show ¬ (4 : Int32) = 1 by decide), if_neg (show ¬ (4 : Int32) = 2 by decide), if_neg (show ¬ (4 : Int32) = 3 by decide), if_pos (show (4 : Int32) = 4 from rfl), if_neg (show ¬ (4 : Int32) = 0 by decide), if_neg (show ¬ (4 : Int32) = 1 by decide), if_neg (show ¬ (4 : Int32) = 2 by decide), if_neg (show ¬ (4 : Int32) = 3 by decide), if_pos (show (4 : Int32) = 4 from rfl)]
    exact ⟨_, rfl, congrArg some h5.symm⟩
  by_cases e5 : w = 5
  · subst e5
    unfold f_X4_count f_X5_count
    rw [if_pos (show (5 : Int32) < 10 by decide), if_pos (show (5 : Int32) < 30 by decide), if_neg (show ¬ (5 : Int32) = 0 by decide), if_neg (show ¬ (5 : Int32) = 1 by decide), if_neg (show ¬ (5 : Int32) = 2 by decide), if_neg (show ¬ (5 : Int32) = 3 by decide), if_neg (show ¬ (5 : Int32) = 4 by decide), if_pos (show (5 : Int32) = 5 from rfl), if_neg (show ¬ (5 : Int32) = 0 by decide), if_neg (show ¬ (5 : Int32) = 1 by decide), if_neg (show ¬ (5 : Int32) = 2 by decide), if_neg (show ¬ (5 : Int32) = 3 by decide), if_neg (show ¬ (5 : Int32) = 4 by decide), if_pos (show (5 : Int32) = 5 from rfl)]
    exact ⟨_, rfl, congrArg some h6.symm⟩
  by_cases e6 : w = 6
  · subst e6
    unfold f_X4_count f_X5_count
    rw [if_pos (show (6 : Int32) < 10 by decide), if_pos (show (6 : Int32) < 30 by decide), if_neg (show ¬ (6 : Int32) = 0 by decide), if_neg (show ¬ (6 : Int32) = 1 by decide), if_neg (show ¬ (6 : Int32) = 2 by decide), if_neg (show ¬ (6 : Int32) = 3 by decide), if_neg (show ¬ (6 : Int32) = 4 by decide), if_neg (show ¬ (6 : Int32) = 5 by decide), if_pos (show (6 : Int32) = 6 from rfl), if_neg (show ¬ (6 : Int32) = 0 by decide), if_neg (show ¬ (6 : Int32) = 1 by decide), if_neg (show ¬ (6 : Int32) = 2 by decide), if_neg (show ¬ (6 : Int32) = 3 by decide), if_neg (show ¬ (6 : Int32) = 4 by decide), if_neg (show ¬ (6 : Int32) = 5 by decide), if_pos (show (6 : Int32) = 6 from rfl)]
    simp only [gd_t (show ix 0 2 = true from ix_n (n := 0) (by omega) (by omega)), gd_t (show ix 1 2 = true from ix_n (n := 1) (by omega) (by omega)), show ((0 : Int32).toNatClampNeg) = 0 from rfl, show ((1 : Int32).toNatClampNeg) = 1 from rfl, iw, show M.2.2.2.2.2.2.2.2.2.2.2.2.2.1 0 = b2i b0 from i0, show M.2.2.2.2.2.2.2.2.2.2.2.2.2.1 1 = b2i b1 from i1]
    cases b0 <;> cases b1 <;> exact Se_same _
  by_cases q1 : 10 ≤ w.toInt ∧ w.toInt ≤ 25
  · obtain ⟨m, hm, rfl⟩ := okP_n (N := 26) (x := w) ⟨by omega, by omega⟩ (by omega)
    rw [nI_toInt (by omega)] at q1
    obtain ⟨j, rfl⟩ : ∃ j, m = j + 10 := ⟨m - 10, by omega⟩
    rw [X4_count_from R (by omega), X5_count_from hM (by omega)]
    exact Se_same _
  · by_cases q2 : 30 ≤ w.toInt ∧ w.toInt ≤ 45
    · obtain ⟨m, hm, rfl⟩ := okP_n (N := 46) (x := w) ⟨by omega, by omega⟩ (by omega)
      rw [nI_toInt (by omega)] at q2
      obtain ⟨j, rfl⟩ : ∃ j, m = j + 30 := ⟨m - 30, by omega⟩
      rw [X4_count_to R (by omega), X5_count_to hM (by omega)]
      exact Se_same _
    · rw [X4_count_out R e0 e1 e2 e3 e4 e5 e6 q1 q2, X5_count_out M e0 e1 e2 e3 e4 e5 e6 q1 q2]
      exact Se_same _
