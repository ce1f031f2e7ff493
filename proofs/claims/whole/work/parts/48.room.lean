/-! ===== PURE HALF. a look-up on both sides, case by case ===== -/
theorem X3_room_full {T : StoreV} (hT : T.2.1 = nI 6) (hp : ∀ i, i < 6 → T.1 i < 7) : f_X3_room T = some (T.1 0, (va_up (shp T.1 0 5) 5 (T.1 0), T.2.1, T.2.2.1, T.2.2.2.1, T.2.2.2.2.1 + 1, T.2.2.2.2.2)) := by
  unfold f_X3_room
  rw [if_pos (by rw [hT]; decide), show (0 : Int32) = nI 0 from rfl, X3_putLast (T := (T.1, T.2.1, T.2.2.1, T.2.2.2.1, (T.2.2.2.2.1 + 1), T.2.2.2.2.2)) (c := 5) (by omega) (by omega) hT hp, bd_some]
theorem X3_room_free {T : StoreV} {c : Nat} (hc : c < 6) (hT : T.2.1 = nI c) (hp : ∀ i, i < 6 → T.1 i < 7) : f_X3_room T = some (T.1 c, (T.1, nI (c + 1), T.2.2)) := by
  unfold f_X3_room
  have q : ¬ (6 : Int32) ≤ T.2.1 := by rw [hT, show (6 : Int32) = nI 6 from rfl, n_le (by omega) (by omega)]; omega
  rw [if_neg q]
  simp only [hT, nI_1, n_pred, gd_t (ix_n hc (by omega : (6 : Nat) ≤ 65536)), cl_n (show c < 65536 by omega), gd_t (decide_eq_true (hp c hc))]
theorem n_neg {j : Nat} (hj : j < 65536) : ¬ nI j < 0 := by rw [show (0 : Int32) = nI 0 from rfl, n_lt (by omega) (by omega)]; omega
theorem X5_look_hit {M : ModelV} {c j : Nat} {y : Int32} (hc : c < 6) (hM : mKept M = nI (c + 1)) (hy : y ≠ 0) (hf : fnd (mSets M) y (c + 1) = some j) : f_X5_lookUp M y = some (M.1, M.2.1, M.2.2.1, M.2.2.2.1, M.2.2.2.2.1, M.2.2.2.2.2.1, M.2.2.2.2.2.2.1, M.2.2.2.2.2.2.2.1, upd (shp (mSets M) j c) c y, M.2.2.2.2.2.2.2.2.2.1, M.2.2.2.2.2.2.2.2.2.2.1 + 1, M.2.2.2.2.2.2.2.2.2.2.2) := by
  have hj := (fnd_lt hf).1
  have hk : M.2.2.2.2.2.2.2.2.2.1 = nI (c + 1) := hM
  unfold f_X5_lookUp
  rw [X5_find y (show c + 1 ≤ 6 by omega) hM, hf, bd_some, if_neg hy]
  have q : ¬ orI (some j) (-6) < 0 := n_neg (show j < 65536 by omega)
  have q2 : (0 : Int32) ≤ orI (some j) (-6) := by show (0 : Int32) ≤ nI j; rw [show (0 : Int32) = nI 0 from rfl, n_le (by omega) (by omega)]; omega
  simp only [if_neg q, if_pos q2, bd_some]
  rw [show orI (some j) (-6) = nI j from rfl, hk, X5_shift (c := c) (j := j) y hc (by omega) rfl, bd_some]
  simp only [n_pred, gd_t (ix_n hc (by omega : (6 : Nat) ≤ 65536)), cl_n (show c < 65536 by omega)]
theorem X5_look_full {M : ModelV} {y : Int32} (hM : mKept M = nI 6) (hy : y ≠ 0) (hf : fnd (mSets M) y 6 = none) : f_X5_lookUp M y = some (M.1, M.2.1, M.2.2.1, M.2.2.2.1, M.2.2.2.2.1, M.2.2.2.2.2.1, M.2.2.2.2.2.2.1, M.2.2.2.2.2.2.2.1, upd (shp (mSets M) 0 5) 5 y, M.2.2.2.2.2.2.2.2.2.1, M.2.2.2.2.2.2.2.2.2.2.1, M.2.2.2.2.2.2.2.2.2.2.2.1 + 1, M.2.2.2.2.2.2.2.2.2.2.2.2.1 + 1, M.2.2.2.2.2.2.2.2.2.2.2.2.2) := by
  have hk : M.2.2.2.2.2.2.2.2.2.1 = nI (5 + 1) := hM
  have k6 : M.2.2.2.2.2.2.2.2.2.1 = 6 := hM
  unfold f_X5_lookUp
  rw [X5_find y (show 6 ≤ 6 by omega) hM, hf, bd_some, if_neg hy]
  have q : orI none (-6) < 0 := by decide
  have q2 : ¬ (0 : Int32) ≤ orI none (-6) := by decide
  simp only [if_pos q, if_neg q2, if_pos k6, bd_some]
  rw [show (0 : Int32) = nI 0 from rfl, hk, X5_shift (c := 5) (j := 0) y (by omega) (by omega) rfl, bd_some]
  simp only [n_pred, gd_t (ix_n (show 5 < 6 by omega) (by omega : (6 : Nat) ≤ 65536)), cl_n (show 5 < 65536 by omega)]
theorem X5_look_free {M : ModelV} {c : Nat} {y : Int32} (hc : c < 6) (hM : mKept M = nI c) (hy : y ≠ 0) (hf : fnd (mSets M) y c = none) : f_X5_lookUp M y = some (M.1, M.2.1, M.2.2.1, M.2.2.2.1, M.2.2.2.2.1, M.2.2.2.2.2.1, M.2.2.2.2.2.2.1, M.2.2.2.2.2.2.2.1, upd (mSets M) c y, nI (c + 1), M.2.2.2.2.2.2.2.2.2.2.1, M.2.2.2.2.2.2.2.2.2.2.2.1 + 1, M.2.2.2.2.2.2.2.2.2.2.2.2.1 + 0, M.2.2.2.2.2.2.2.2.2.2.2.2.2) := by
  have hk : M.2.2.2.2.2.2.2.2.2.1 = nI c := hM
  have k6 : ¬ M.2.2.2.2.2.2.2.2.2.1 = 6 := by rw [hk, show (6 : Int32) = nI 6 from rfl, n_eq (by omega) (by omega)]; omega
  unfold f_X5_lookUp
  rw [X5_find y (show c ≤ 6 by omega) hM, hf, bd_some, if_neg hy]
  have q : orI none (-6) < 0 := by decide
  have q2 : ¬ (0 : Int32) ≤ orI none (-6) := by decide
  simp only [if_pos q, if_neg q2, if_neg k6, bd_some]
  rw [hk, nI_1, X5_shift (c := c) (j := c) y hc (by omega) rfl, bd_some]
  simp only [shp_0, n_pred, gd_t (ix_n hc (by omega : (6 : Nat) ≤ 65536)), cl_n (show c < 65536 by omega)]
