/-! ===== PURE HALF. one call of the law, and the law ===== -/
theorem ix_k {i k L : Nat} (h : i + k < L) (hL : L ≤ 2560) : ix (nI i + nI k) L = true := by
  rw [nI_add]
  exact ix_n h (by omega)
theorem pl_0 {xs : Nat → Int32} {L i : Nat} {R : RcV} {M : ModelV} (h : Rel R M) (hi : i + 5 ≤ L) (hL : L ≤ 2560) : ∃ R' M', f_law_0 xs L (nI i) R M = some (R', M') ∧ Rel R' M' := by
  unfold f_law_0
  simp only [gd_t (show ix (nI i + 1) L = true from ix_k (k := 1) (by omega) hL), gd_t (show ix (nI i + 2) L = true from ix_k (k := 2) (by omega) hL), gd_t (show ix (nI i + 3) L = true from ix_k (k := 3) (by omega) hL)]
  obtain ⟨r, R', M', e1, e2, e3⟩ := sm_row h (xs (nI i + 1).toNatClampNeg) (xs (nI i + 2).toNatClampNeg) (xs (nI i + 3).toNatClampNeg)
  rw [e1, bd_some, e2, bd_some, if_pos (show (r, R').1 = (r, M').1 from rfl)]
  exact ⟨_, _, rfl, e3⟩
theorem pl_1 {xs : Nat → Int32} {L i : Nat} {R : RcV} {M : ModelV} (h : Rel R M) (hi : i + 5 ≤ L) (hL : L ≤ 2560) : ∃ R' M', f_law_1 xs L (nI i) R M = some (R', M') ∧ Rel R' M' := by
  unfold f_law_1
  simp only [gd_t (show ix (nI i + 1) L = true from ix_k (k := 1) (by omega) hL), gd_t (show ix (nI i + 2) L = true from ix_k (k := 2) (by omega) hL)]
  obtain ⟨r, R', M', e1, e2, e3⟩ := sm_gauge h (xs (nI i + 1).toNatClampNeg) (xs (nI i + 2).toNatClampNeg)
  rw [e1, bd_some, e2, bd_some, if_pos (show (r, R').1 = (r, M').1 from rfl)]
  exact ⟨_, _, rfl, e3⟩
theorem pl_2 {xs : Nat → Int32} {L i : Nat} {R : RcV} {M : ModelV} (h : Rel R M) (hi : i + 5 ≤ L) (hL : L ≤ 2560) : ∃ R' M', f_law_2 xs L (nI i) R M = some (R', M') ∧ Rel R' M' := by
  unfold f_law_2
  simp only [gd_t (show ix (nI i + 1) L = true from ix_k (k := 1) (by omega) hL), gd_t (show ix (nI i + 2) L = true from ix_k (k := 2) (by omega) hL), gd_t (show ix (nI i + 3) L = true from ix_k (k := 3) (by omega) hL)]
  obtain ⟨r, R', M', e1, e2, e3⟩ := sm_move h (xs (nI i + 1).toNatClampNeg) (xs (nI i + 2).toNatClampNeg) (xs (nI i + 3).toNatClampNeg)
  rw [e1, bd_some, e2, bd_some, if_pos (show (r, R').1 = (r, M').1 from rfl)]
  exact ⟨_, _, rfl, e3⟩
theorem pl_3 {xs : Nat → Int32} {L i : Nat} {R : RcV} {M : ModelV} (h : Rel R M) (hi : i + 5 ≤ L) (hL : L ≤ 2560) : ∃ R' M', f_law_3 xs L (nI i) R M = some (R', M') ∧ Rel R' M' := by
  unfold f_law_3
  simp only [gd_t (show ix (nI i + 1) L = true from ix_k (k := 1) (by omega) hL), gd_t (show ix (nI i + 2) L = true from ix_k (k := 2) (by omega) hL)]
  obtain ⟨r, R', M', e1, e2, e3⟩ := sm_reach h (xs (nI i + 1).toNatClampNeg) (xs (nI i + 2).toNatClampNeg)
  rw [e1, bd_some, e2, bd_some, if_pos (show (r, R').1 = (r, M').1 from rfl)]
  exact ⟨_, _, rfl, e3⟩
theorem pl_4 {xs : Nat → Int32} {L i : Nat} {R : RcV} {M : ModelV} (h : Rel R M) (hi : i + 5 ≤ L) (hL : L ≤ 2560) : ∃ R' M', f_law_4 xs L (nI i) R M = some (R', M') ∧ Rel R' M' := by
  unfold f_law_4
  simp only [gd_t (show ix (nI i + 1) L = true from ix_k (k := 1) (by omega) hL), gd_t (show ix (nI i + 2) L = true from ix_k (k := 2) (by omega) hL), gd_t (show ix (nI i + 3) L = true from ix_k (k := 3) (by omega) hL), gd_t (show ix (nI i + 4) L = true from ix_k (k := 4) (by omega) hL)]
  obtain ⟨r, R', M', e1, e2, e3⟩ := sm_fail h (xs (nI i + 1).toNatClampNeg) (xs (nI i + 2).toNatClampNeg) (xs (nI i + 3).toNatClampNeg) (xs (nI i + 4).toNatClampNeg)
  rw [e1, bd_some, e2, bd_some, if_pos (show (r, R').1 = (r, M').1 from rfl)]
  exact ⟨_, _, rfl, e3⟩
theorem pl_5 {xs : Nat → Int32} {L i : Nat} {R : RcV} {M : ModelV} (h : Rel R M) (hi : i + 5 ≤ L) (hL : L ≤ 2560) : ∃ R' M', f_law_5 xs L (nI i) R M = some (R', M') ∧ Rel R' M' := by
  unfold f_law_5
  simp only [gd_t (show ix (nI i + 1) L = true from ix_k (k := 1) (by omega) hL), gd_t (show ix (nI i + 2) L = true from ix_k (k := 2) (by omega) hL), gd_t (show ix (nI i + 3) L = true from ix_k (k := 3) (by omega) hL)]
  obtain ⟨r, R', M', e1, e2, e3⟩ := sm_rain h (xs (nI i + 1).toNatClampNeg) (xs (nI i + 2).toNatClampNeg) (xs (nI i + 3).toNatClampNeg)
  rw [e1, bd_some, e2, bd_some, if_pos (show (r, R').1 = (r, M').1 from rfl)]
  exact ⟨_, _, rfl, e3⟩
theorem pl_6 {xs : Nat → Int32} {L i : Nat} {R : RcV} {M : ModelV} (h : Rel R M) (hi : i + 5 ≤ L) (hL : L ≤ 2560) : ∃ R' M', f_law_6 xs L (nI i) R M = some (R', M') ∧ Rel R' M' := by
  unfold f_law_6
  simp only [gd_t (show ix (nI i + 1) L = true from ix_k (k := 1) (by omega) hL), gd_t (show ix (nI i + 2) L = true from ix_k (k := 2) (by omega) hL)]
  obtain ⟨r, e1, e2⟩ := sm_of h (xs (nI i + 1).toNatClampNeg) (xs (nI i + 2).toNatClampNeg)
  rw [e1, bd_some, e2, bd_some, if_pos (show r = r from rfl)]
  exact ⟨_, _, rfl, h⟩
theorem pl_7 {xs : Nat → Int32} {L i : Nat} {R : RcV} {M : ModelV} (h : Rel R M) (hi : i + 5 ≤ L) (hL : L ≤ 2560) : ∃ R' M', f_law_7 xs L (nI i) R M = some (R', M') ∧ Rel R' M' := by
  unfold f_law_7
  simp only [gd_t (show ix (nI i + 1) L = true from ix_k (k := 1) (by omega) hL), gd_t (show ix (nI i + 2) L = true from ix_k (k := 2) (by omega) hL)]
  obtain ⟨r, e1, e2⟩ := sm_reading h (xs (nI i + 1).toNatClampNeg) (xs (nI i + 2).toNatClampNeg)
  rw [e1, bd_some, e2, bd_some, if_pos (show r = r from rfl)]
  exact ⟨_, _, rfl, h⟩
theorem pl_8 {xs : Nat → Int32} {L i : Nat} {R : RcV} {M : ModelV} (h : Rel R M) (hi : i + 5 ≤ L) (hL : L ≤ 2560) : ∃ R' M', f_law_8 xs L (nI i) R M = some (R', M') ∧ Rel R' M' := by
  unfold f_law_8
  simp only [gd_t (show ix (nI i + 1) L = true from ix_k (k := 1) (by omega) hL)]
  obtain ⟨r, e1, e2⟩ := sm_working h (xs (nI i + 1).toNatClampNeg)
  rw [e1, bd_some, e2, bd_some, if_pos (show r = r from rfl)]
  exact ⟨_, _, rfl, h⟩
theorem pl_9 {xs : Nat → Int32} {L i : Nat} {R : RcV} {M : ModelV} (h : Rel R M) (hi : i + 5 ≤ L) (hL : L ≤ 2560) : ∃ R' M', f_law_9 xs L (nI i) R M = some (R', M') ∧ Rel R' M' := by
  unfold f_law_9
  simp only [gd_t (show ix (nI i + 1) L = true from ix_k (k := 1) (by omega) hL), gd_t (show ix (nI i + 2) L = true from ix_k (k := 2) (by omega) hL), gd_t (show ix (nI i + 3) L = true from ix_k (k := 3) (by omega) hL)]
  obtain ⟨r, R', M', e1, e2, e3⟩ := sm_owner h (xs (nI i + 1).toNatClampNeg) (xs (nI i + 2).toNatClampNeg) (xs (nI i + 3).toNatClampNeg)
  rw [e1, bd_some, e2, bd_some, if_pos (show (r, R').1 = (r, M').1 from rfl)]
  exact ⟨_, _, rfl, e3⟩
theorem pl_10 {xs : Nat → Int32} {L i : Nat} {R : RcV} {M : ModelV} (h : Rel R M) (hi : i + 5 ≤ L) (hL : L ≤ 2560) : ∃ R' M', f_law_10 xs L (nI i) R M = some (R', M') ∧ Rel R' M' := by
  unfold f_law_10
  simp only [gd_t (show ix (nI i + 1) L = true from ix_k (k := 1) (by omega) hL), gd_t (show ix (nI i + 2) L = true from ix_k (k := 2) (by omega) hL), gd_t (show ix (nI i + 3) L = true from ix_k (k := 3) (by omega) hL)]
  obtain ⟨r, R', M', e1, e2, e3⟩ := sm_cell h (xs (nI i + 1).toNatClampNeg) (xs (nI i + 2).toNatClampNeg) (xs (nI i + 3).toNatClampNeg)
  rw [e1, bd_some, e2, bd_some, if_pos (show (r, R').1 = (r, M').1 from rfl)]
  exact ⟨_, _, rfl, e3⟩
theorem pl_11 {xs : Nat → Int32} {L i : Nat} {R : RcV} {M : ModelV} (h : Rel R M) (hi : i + 5 ≤ L) (hL : L ≤ 2560) : ∃ R' M', f_law_11 xs L (nI i) R M = some (R', M') ∧ Rel R' M' := by
  unfold f_law_11
  simp only [gd_t (show ix (nI i + 1) L = true from ix_k (k := 1) (by omega) hL), gd_t (show ix (nI i + 2) L = true from ix_k (k := 2) (by omega) hL), gd_t (show ix (nI i + 3) L = true from ix_k (k := 3) (by omega) hL)]
  obtain ⟨r, R', M', e1, e2, e3⟩ := sm_border h (xs (nI i + 1).toNatClampNeg) (xs (nI i + 2).toNatClampNeg) (xs (nI i + 3).toNatClampNeg)
  rw [e1, bd_some, e2, bd_some, if_pos (show (r, R').1 = (r, M').1 from rfl)]
  exact ⟨_, _, rfl, e3⟩
theorem pl_12 {xs : Nat → Int32} {L i : Nat} {R : RcV} {M : ModelV} (h : Rel R M) (hi : i + 5 ≤ L) (hL : L ≤ 2560) : ∃ R' M', f_law_12 xs L (nI i) R M = some (R', M') ∧ Rel R' M' := by
  unfold f_law_12
  simp only [gd_t (show ix (nI i + 1) L = true from ix_k (k := 1) (by omega) hL), gd_t (show ix (nI i + 2) L = true from ix_k (k := 2) (by omega) hL)]
  obtain ⟨r, R', M', e1, e2, e3⟩ := sm_neighbours h (xs (nI i + 1).toNatClampNeg) (xs (nI i + 2).toNatClampNeg)
  rw [e1, bd_some, e2, bd_some, if_pos (show (r, R').1 = (r, M').1 from rfl)]
  exact ⟨_, _, rfl, e3⟩
theorem pl_13 {xs : Nat → Int32} {L i : Nat} {R : RcV} {M : ModelV} (h : Rel R M) (hi : i + 5 ≤ L) (hL : L ≤ 2560) : ∃ R' M', f_law_13 xs L (nI i) R M = some (R', M') ∧ Rel R' M' := by
  unfold f_law_13
  simp only [gd_t (show ix (nI i + 1) L = true from ix_k (k := 1) (by omega) hL), gd_t (show ix (nI i + 2) L = true from ix_k (k := 2) (by omega) hL)]
  obtain ⟨r, R', M', e1, e2, e3⟩ := sm_mean h (xs (nI i + 1).toNatClampNeg) (xs (nI i + 2).toNatClampNeg)
  rw [e1, bd_some, e2, bd_some, if_pos (show (r, R').1 = (r, M').1 from rfl)]
  exact ⟨_, _, rfl, e3⟩
theorem pl_14 {xs : Nat → Int32} {L i : Nat} {R : RcV} {M : ModelV} (h : Rel R M) (hi : i + 5 ≤ L) (hL : L ≤ 2560) : ∃ R' M', f_law_14 xs L (nI i) R M = some (R', M') ∧ Rel R' M' := by
  unfold f_law_14
  simp only [gd_t (show ix (nI i + 1) L = true from ix_k (k := 1) (by omega) hL), gd_t (show ix (nI i + 2) L = true from ix_k (k := 2) (by omega) hL), gd_t (show ix (nI i + 3) L = true from ix_k (k := 3) (by omega) hL)]
  obtain ⟨r, R', M', e1, e2, e3⟩ := sm_total h (xs (nI i + 1).toNatClampNeg) (xs (nI i + 2).toNatClampNeg) (xs (nI i + 3).toNatClampNeg)
  rw [e1, bd_some, e2, bd_some, if_pos (show (r, R').1 = (r, M').1 from rfl)]
  exact ⟨_, _, rfl, e3⟩
theorem pl_15 {xs : Nat → Int32} {L i : Nat} {R : RcV} {M : ModelV} (h : Rel R M) (hi : i + 5 ≤ L) (hL : L ≤ 2560) : ∃ R' M', f_law_15 xs L (nI i) R M = some (R', M') ∧ Rel R' M' := by
  unfold f_law_15
  simp only [gd_t (show ix (nI i + 1) L = true from ix_k (k := 1) (by omega) hL)]
  obtain ⟨r, R', M', e1, e2, e3⟩ := sm_spread h (xs (nI i + 1).toNatClampNeg)
  rw [e1, bd_some, e2, bd_some, if_pos (show (r, R').1 = (r, M').1 from rfl)]
  exact ⟨_, _, rfl, e3⟩
theorem pl_16 {xs : Nat → Int32} {L i : Nat} {R : RcV} {M : ModelV} (h : Rel R M) (hi : i + 5 ≤ L) (hL : L ≤ 2560) : ∃ R' M', f_law_16 xs L (nI i) R M = some (R', M') ∧ Rel R' M' := by
  unfold f_law_16
  simp only [gd_t (show ix (nI i + 1) L = true from ix_k (k := 1) (by omega) hL), gd_t (show ix (nI i + 2) L = true from ix_k (k := 2) (by omega) hL)]
  obtain ⟨r, R', e1, e2, e3⟩ := sm_next h (xs (nI i + 1).toNatClampNeg) (xs (nI i + 2).toNatClampNeg)
  rw [e1, bd_some, e2, bd_some, if_pos (show (r, R').1 = r from rfl)]
  exact ⟨_, _, rfl, e3⟩
theorem pl_17 {xs : Nat → Int32} {L i : Nat} {R : RcV} {M : ModelV} (h : Rel R M) (hi : i + 5 ≤ L) (hL : L ≤ 2560) : ∃ R' M', f_law_17 xs L (nI i) R M = some (R', M') ∧ Rel R' M' := by
  unfold f_law_17
  simp only [gd_t (show ix (nI i + 1) L = true from ix_k (k := 1) (by omega) hL), gd_t (show ix (nI i + 2) L = true from ix_k (k := 2) (by omega) hL), gd_t (show ix (nI i + 3) L = true from ix_k (k := 3) (by omega) hL)]
  obtain ⟨r, R', M', e1, e2, e3⟩ := sm_shared h (xs (nI i + 1).toNatClampNeg) (xs (nI i + 2).toNatClampNeg) (xs (nI i + 3).toNatClampNeg)
  rw [e1, bd_some, e2, bd_some, if_pos (show (r, R').1 = (r, M').1 from rfl)]
  exact ⟨_, _, rfl, e3⟩
theorem pl_18 {xs : Nat → Int32} {L i : Nat} {R : RcV} {M : ModelV} (h : Rel R M) (hi : i + 5 ≤ L) (hL : L ≤ 2560) : ∃ R' M', f_law_18 xs L (nI i) R M = some (R', M') ∧ Rel R' M' := by
  unfold f_law_18
  simp only [gd_t (show ix (nI i + 1) L = true from ix_k (k := 1) (by omega) hL), gd_t (show ix (nI i + 2) L = true from ix_k (k := 2) (by omega) hL), gd_t (show ix (nI i + 3) L = true from ix_k (k := 3) (by omega) hL)]
  obtain ⟨r, R', M', e1, e2, e3⟩ := sm_estimate h (xs (nI i + 1).toNatClampNeg) (xs (nI i + 2).toNatClampNeg) (xs (nI i + 3).toNatClampNeg)
  rw [e1, bd_some, e2, bd_some, if_pos (show (r, R').1 = (r, M').1 from rfl)]
  exact ⟨_, _, rfl, e3⟩
theorem pl_19 {xs : Nat → Int32} {L i : Nat} {R : RcV} {M : ModelV} (h : Rel R M) (hi : i + 5 ≤ L) (hL : L ≤ 2560) : ∃ R' M', f_law_19 xs L (nI i) R M = some (R', M') ∧ Rel R' M' := by
  unfold f_law_19
  simp only [gd_t (show ix (nI i + 1) L = true from ix_k (k := 1) (by omega) hL), gd_t (show ix (nI i + 2) L = true from ix_k (k := 2) (by omega) hL)]
  obtain ⟨r, R', M', e1, e2, e3⟩ := sm_doubt h (xs (nI i + 1).toNatClampNeg) (xs (nI i + 2).toNatClampNeg)
  rw [e1, bd_some, e2, bd_some, if_pos (show (r, R').1 = (r, M').1 from rfl)]
  exact ⟨_, _, rfl, e3⟩
theorem pl_20 {xs : Nat → Int32} {L i : Nat} {R : RcV} {M : ModelV} (h : Rel R M) (hi : i + 5 ≤ L) (hL : L ≤ 2560) : ∃ R' M', f_law_20 xs L (nI i) R M = some (R', M') ∧ Rel R' M' := by
  unfold f_law_20
  simp only [gd_t (show ix (nI i + 1) L = true from ix_k (k := 1) (by omega) hL)]
  obtain ⟨r, e1, e2⟩ := sm_kept h (xs (nI i + 1).toNatClampNeg)
  rw [e1, bd_some, e2, bd_some, if_pos (show r = r from rfl)]
  exact ⟨_, _, rfl, h⟩
theorem pl_21 {xs : Nat → Int32} {L i : Nat} {R : RcV} {M : ModelV} (h : Rel R M) (hi : i + 5 ≤ L) (hL : L ≤ 2560) : ∃ R' M', f_law_21 xs L (nI i) R M = some (R', M') ∧ Rel R' M' := by
  unfold f_law_21
  simp only [gd_t (show ix (nI i + 1) L = true from ix_k (k := 1) (by omega) hL)]
  obtain ⟨r, R', M', e1, e2, e3⟩ := sm_image h (xs (nI i + 1).toNatClampNeg)
  rw [e1, bd_some, e2, bd_some, if_pos (show (r, R').1 = (r, M').1 from rfl)]
  exact ⟨_, _, rfl, e3⟩
theorem pl_22 {xs : Nat → Int32} {L i : Nat} {R : RcV} {M : ModelV} (h : Rel R M) (hi : i + 5 ≤ L) (hL : L ≤ 2560) : ∃ R' M', f_law_22 xs L (nI i) R M = some (R', M') ∧ Rel R' M' := by
  unfold f_law_22
  simp only [gd_t (show ix (nI i + 1) L = true from ix_k (k := 1) (by omega) hL)]
  obtain ⟨r, R', M', e1, e2, e3⟩ := sm_restore h (xs (nI i + 1).toNatClampNeg)
  rw [e1, bd_some, e2, bd_some, if_pos (show (r, R').1 = (r, M').1 from rfl)]
  exact ⟨_, _, rfl, e3⟩
theorem pl_23 {xs : Nat → Int32} {L i : Nat} {R : RcV} {M : ModelV} (h : Rel R M) (hi : i + 5 ≤ L) (hL : L ≤ 2560) : ∃ R' M', f_law_23 xs L (nI i) R M = some (R', M') ∧ Rel R' M' := by
  unfold f_law_23
  simp only [gd_t (show ix (nI i + 1) L = true from ix_k (k := 1) (by omega) hL)]
  obtain ⟨r, e1, e2⟩ := sm_count h (xs (nI i + 1).toNatClampNeg)
  rw [e1, bd_some, e2, bd_some, if_pos (show r = r from rfl)]
  exact ⟨_, _, rfl, h⟩
theorem pl_end {L i : Nat} (hL : L ≤ 2560) (hi : i ≤ L) : (Int32.ofNat L - 5 < nI i) ↔ L < i + 5 := by
  rw [show Int32.ofNat L = nI L from rfl, i_lt, fb_subI (by rw [nI_toInt (by omega), show (5 : Int32).toInt = 5 by decide]; omega) (by rw [nI_toInt (by omega), show (5 : Int32).toInt = 5 by decide]; omega), nI_toInt (by omega), nI_toInt (by omega), show (5 : Int32).toInt = 5 by decide]
  omega
theorem pl_step {xs : Nat → Int32} {L i : Nat} {R : RcV} {M : ModelV} (h : Rel R M) (hi : i + 5 ≤ L) (hL : L ≤ 2560) : ∃ R' M', f_law_L xs L (nI i, R, M) = some (.inl (nI i + 5, R', M')) ∧ Rel R' M' := by
  unfold f_law_L
  rw [if_neg (show ¬ Int32.ofNat L - 5 < nI i from fun q => by have := (pl_end hL (by omega)).mp q; omega), gd_t (show ix (nI i) L = true from ix_n (by omega) (by omega))]
  by_cases c0 : xs (nI i).toNatClampNeg &&& 31 = 0
  · rw [if_pos (show xs (nI i, R, M).1.toNatClampNeg &&& 31 = 0 from c0)]
    obtain ⟨R', M', e, h'⟩ := pl_0 (xs := xs) h hi hL
    rw [show f_law_0 xs L (nI i, R, M).1 (nI i, R, M).2.1 (nI i, R, M).2.2 = _ from e, bd_some]
    exact ⟨R', M', rfl, h'⟩
  rw [if_neg (show ¬ xs (nI i, R, M).1.toNatClampNeg &&& 31 = 0 from c0)]
  by_cases c1 : xs (nI i).toNatClampNeg &&& 31 = 1
  · rw [if_pos (show xs (nI i, R, M).1.toNatClampNeg &&& 31 = 1 from c1)]
    obtain ⟨R', M', e, h'⟩ := pl_1 (xs := xs) h hi hL
    rw [show f_law_1 xs L (nI i, R, M).1 (nI i, R, M).2.1 (nI i, R, M).2.2 = _ from e, bd_some]
    exact ⟨R', M', rfl, h'⟩
  rw [if_neg (show ¬ xs (nI i, R, M).1.toNatClampNeg &&& 31 = 1 from c1)]
  by_cases c2 : xs (nI i).toNatClampNeg &&& 31 = 2
  · rw [if_pos (show xs (nI i, R, M).1.toNatClampNeg &&& 31 = 2 from c2)]
    obtain ⟨R', M', e, h'⟩ := pl_2 (xs := xs) h hi hL
    rw [show f_law_2 xs L (nI i, R, M).1 (nI i, R, M).2.1 (nI i, R, M).2.2 = _ from e, bd_some]
    exact ⟨R', M', rfl, h'⟩
  rw [if_neg (show ¬ xs (nI i, R, M).1.toNatClampNeg &&& 31 = 2 from c2)]
  by_cases c3 : xs (nI i).toNatClampNeg &&& 31 = 3
  · rw [if_pos (show xs (nI i, R, M).1.toNatClampNeg &&& 31 = 3 from c3)]
    obtain ⟨R', M', e, h'⟩ := pl_3 (xs := xs) h hi hL
    rw [show f_law_3 xs L (nI i, R, M).1 (nI i, R, M).2.1 (nI i, R, M).2.2 = _ from e, bd_some]
    exact ⟨R', M', rfl, h'⟩
  rw [if_neg (show ¬ xs (nI i, R, M).1.toNatClampNeg &&& 31 = 3 from c3)]
  by_cases c4 : xs (nI i).toNatClampNeg &&& 31 = 4
  · rw [if_pos (show xs (nI i, R, M).1.toNatClampNeg &&& 31 = 4 from c4)]
    obtain ⟨R', M', e, h'⟩ := pl_4 (xs := xs) h hi hL
    rw [show f_law_4 xs L (nI i, R, M).1 (nI i, R, M).2.1 (nI i, R, M).2.2 = _ from e, bd_some]
    exact ⟨R', M', rfl, h'⟩
  rw [if_neg (show ¬ xs (nI i, R, M).1.toNatClampNeg &&& 31 = 4 from c4)]
  by_cases c5 : xs (nI i).toNatClampNeg &&& 31 = 5
  · rw [if_pos (show xs (nI i, R, M).1.toNatClampNeg &&& 31 = 5 from c5)]
    obtain ⟨R', M', e, h'⟩ := pl_5 (xs := xs) h hi hL
    rw [show f_law_5 xs L (nI i, R, M).1 (nI i, R, M).2.1 (nI i, R, M).2.2 = _ from e, bd_some]
    exact ⟨R', M', rfl, h'⟩
  rw [if_neg (show ¬ xs (nI i, R, M).1.toNatClampNeg &&& 31 = 5 from c5)]
  by_cases c6 : xs (nI i).toNatClampNeg &&& 31 = 6
  · rw [if_pos (show xs (nI i, R, M).1.toNatClampNeg &&& 31 = 6 from c6)]
    obtain ⟨R', M', e, h'⟩ := pl_6 (xs := xs) h hi hL
    rw [show f_law_6 xs L (nI i, R, M).1 (nI i, R, M).2.1 (nI i, R, M).2.2 = _ from e, bd_some]
    exact ⟨R', M', rfl, h'⟩
  rw [if_neg (show ¬ xs (nI i, R, M).1.toNatClampNeg &&& 31 = 6 from c6)]
  by_cases c7 : xs (nI i).toNatClampNeg &&& 31 = 7
  · rw [if_pos (show xs (nI i, R, M).1.toNatClampNeg &&& 31 = 7 from c7)]
    obtain ⟨R', M', e, h'⟩ := pl_7 (xs := xs) h hi hL
    rw [show f_law_7 xs L (nI i, R, M).1 (nI i, R, M).2.1 (nI i, R, M).2.2 = _ from e, bd_some]
    exact ⟨R', M', rfl, h'⟩
  rw [if_neg (show ¬ xs (nI i, R, M).1.toNatClampNeg &&& 31 = 7 from c7)]
  by_cases c8 : xs (nI i).toNatClampNeg &&& 31 = 8
  · rw [if_pos (show xs (nI i, R, M).1.toNatClampNeg &&& 31 = 8 from c8)]
    obtain ⟨R', M', e, h'⟩ := pl_8 (xs := xs) h hi hL
    rw [show f_law_8 xs L (nI i, R, M).1 (nI i, R, M).2.1 (nI i, R, M).2.2 = _ from e, bd_some]
    exact ⟨R', M', rfl, h'⟩
  rw [if_neg (show ¬ xs (nI i, R, M).1.toNatClampNeg &&& 31 = 8 from c8)]
  by_cases c9 : xs (nI i).toNatClampNeg &&& 31 = 9
  · rw [if_pos (show xs (nI i, R, M).1.toNatClampNeg &&& 31 = 9 from c9)]
    obtain ⟨R', M', e, h'⟩ := pl_9 (xs := xs) h hi hL
    rw [show f_law_9 xs L (nI i, R, M).1 (nI i, R, M).2.1 (nI i, R, M).2.2 = _ from e, bd_some]
    exact ⟨R', M', rfl, h'⟩
  rw [if_neg (show ¬ xs (nI i, R, M).1.toNatClampNeg &&& 31 = 9 from c9)]
  by_cases c10 : xs (nI i).toNatClampNeg &&& 31 = 10
  · rw [if_pos (show xs (nI i, R, M).1.toNatClampNeg &&& 31 = 10 from c10)]
    obtain ⟨R', M', e, h'⟩ := pl_10 (xs := xs) h hi hL
    rw [show f_law_10 xs L (nI i, R, M).1 (nI i, R, M).2.1 (nI i, R, M).2.2 = _ from e, bd_some]
    exact ⟨R', M', rfl, h'⟩
  rw [if_neg (show ¬ xs (nI i, R, M).1.toNatClampNeg &&& 31 = 10 from c10)]
  by_cases c11 : xs (nI i).toNatClampNeg &&& 31 = 11
  · rw [if_pos (show xs (nI i, R, M).1.toNatClampNeg &&& 31 = 11 from c11)]
    obtain ⟨R', M', e, h'⟩ := pl_11 (xs := xs) h hi hL
    rw [show f_law_11 xs L (nI i, R, M).1 (nI i, R, M).2.1 (nI i, R, M).2.2 = _ from e, bd_some]
    exact ⟨R', M', rfl, h'⟩
  rw [if_neg (show ¬ xs (nI i, R, M).1.toNatClampNeg &&& 31 = 11 from c11)]
  by_cases c12 : xs (nI i).toNatClampNeg &&& 31 = 12
  · rw [if_pos (show xs (nI i, R, M).1.toNatClampNeg &&& 31 = 12 from c12)]
    obtain ⟨R', M', e, h'⟩ := pl_12 (xs := xs) h hi hL
    rw [show f_law_12 xs L (nI i, R, M).1 (nI i, R, M).2.1 (nI i, R, M).2.2 = _ from e, bd_some]
    exact ⟨R', M', rfl, h'⟩
  rw [if_neg (show ¬ xs (nI i, R, M).1.toNatClampNeg &&& 31 = 12 from c12)]
  by_cases c13 : xs (nI i).toNatClampNeg &&& 31 = 13
  · rw [if_pos (show xs (nI i, R, M).1.toNatClampNeg &&& 31 = 13 from c13)]
    obtain ⟨R', M', e, h'⟩ := pl_13 (xs := xs) h hi hL
    rw [show f_law_13 xs L (nI i, R, M).1 (nI i, R, M).2.1 (nI i, R, M).2.2 = _ from e, bd_some]
    exact ⟨R', M', rfl, h'⟩
  rw [if_neg (show ¬ xs (nI i, R, M).1.toNatClampNeg &&& 31 = 13 from c13)]
  by_cases c14 : xs (nI i).toNatClampNeg &&& 31 = 14
  · rw [if_pos (show xs (nI i, R, M).1.toNatClampNeg &&& 31 = 14 from c14)]
    obtain ⟨R', M', e, h'⟩ := pl_14 (xs := xs) h hi hL
    rw [show f_law_14 xs L (nI i, R, M).1 (nI i, R, M).2.1 (nI i, R, M).2.2 = _ from e, bd_some]
    exact ⟨R', M', rfl, h'⟩
  rw [if_neg (show ¬ xs (nI i, R, M).1.toNatClampNeg &&& 31 = 14 from c14)]
  by_cases c15 : xs (nI i).toNatClampNeg &&& 31 = 15
  · rw [if_pos (show xs (nI i, R, M).1.toNatClampNeg &&& 31 = 15 from c15)]
    obtain ⟨R', M', e, h'⟩ := pl_15 (xs := xs) h hi hL
    rw [show f_law_15 xs L (nI i, R, M).1 (nI i, R, M).2.1 (nI i, R, M).2.2 = _ from e, bd_some]
    exact ⟨R', M', rfl, h'⟩
  rw [if_neg (show ¬ xs (nI i, R, M).1.toNatClampNeg &&& 31 = 15 from c15)]
  by_cases c16 : xs (nI i).toNatClampNeg &&& 31 = 16
  · rw [if_pos (show xs (nI i, R, M).1.toNatClampNeg &&& 31 = 16 from c16)]
    obtain ⟨R', M', e, h'⟩ := pl_16 (xs := xs) h hi hL
    rw [show f_law_16 xs L (nI i, R, M).1 (nI i, R, M).2.1 (nI i, R, M).2.2 = _ from e, bd_some]
    exact ⟨R', M', rfl, h'⟩
  rw [if_neg (show ¬ xs (nI i, R, M).1.toNatClampNeg &&& 31 = 16 from c16)]
  by_cases c17 : xs (nI i).toNatClampNeg &&& 31 = 17
  · rw [if_pos (show xs (nI i, R, M).1.toNatClampNeg &&& 31 = 17 from c17)]
    obtain ⟨R', M', e, h'⟩ := pl_17 (xs := xs) h hi hL
    rw [show f_law_17 xs L (nI i, R, M).1 (nI i, R, M).2.1 (nI i, R, M).2.2 = _ from e, bd_some]
    exact ⟨R', M', rfl, h'⟩
  rw [if_neg (show ¬ xs (nI i, R, M).1.toNatClampNeg &&& 31 = 17 from c17)]
  by_cases c18 : xs (nI i).toNatClampNeg &&& 31 = 18
  · rw [if_pos (show xs (nI i, R, M).1.toNatClampNeg &&& 31 = 18 from c18)]
    obtain ⟨R', M', e, h'⟩ := pl_18 (xs := xs) h hi hL
    rw [show f_law_18 xs L (nI i, R, M).1 (nI i, R, M).2.1 (nI i, R, M).2.2 = _ from e, bd_some]
    exact ⟨R', M', rfl, h'⟩
  rw [if_neg (show ¬ xs (nI i, R, M).1.toNatClampNeg &&& 31 = 18 from c18)]
  by_cases c19 : xs (nI i).toNatClampNeg &&& 31 = 19
  · rw [if_pos (show xs (nI i, R, M).1.toNatClampNeg &&& 31 = 19 from c19)]
    obtain ⟨R', M', e, h'⟩ := pl_19 (xs := xs) h hi hL
    rw [show f_law_19 xs L (nI i, R, M).1 (nI i, R, M).2.1 (nI i, R, M).2.2 = _ from e, bd_some]
    exact ⟨R', M', rfl, h'⟩
  rw [if_neg (show ¬ xs (nI i, R, M).1.toNatClampNeg &&& 31 = 19 from c19)]
  by_cases c20 : xs (nI i).toNatClampNeg &&& 31 = 20
  · rw [if_pos (show xs (nI i, R, M).1.toNatClampNeg &&& 31 = 20 from c20)]
    obtain ⟨R', M', e, h'⟩ := pl_20 (xs := xs) h hi hL
    rw [show f_law_20 xs L (nI i, R, M).1 (nI i, R, M).2.1 (nI i, R, M).2.2 = _ from e, bd_some]
    exact ⟨R', M', rfl, h'⟩
  rw [if_neg (show ¬ xs (nI i, R, M).1.toNatClampNeg &&& 31 = 20 from c20)]
  by_cases c21 : xs (nI i).toNatClampNeg &&& 31 = 21
  · rw [if_pos (show xs (nI i, R, M).1.toNatClampNeg &&& 31 = 21 from c21)]
    obtain ⟨R', M', e, h'⟩ := pl_21 (xs := xs) h hi hL
    rw [show f_law_21 xs L (nI i, R, M).1 (nI i, R, M).2.1 (nI i, R, M).2.2 = _ from e, bd_some]
    exact ⟨R', M', rfl, h'⟩
  rw [if_neg (show ¬ xs (nI i, R, M).1.toNatClampNeg &&& 31 = 21 from c21)]
  by_cases c22 : xs (nI i).toNatClampNeg &&& 31 = 22
  · rw [if_pos (show xs (nI i, R, M).1.toNatClampNeg &&& 31 = 22 from c22)]
    obtain ⟨R', M', e, h'⟩ := pl_22 (xs := xs) h hi hL
    rw [show f_law_22 xs L (nI i, R, M).1 (nI i, R, M).2.1 (nI i, R, M).2.2 = _ from e, bd_some]
    exact ⟨R', M', rfl, h'⟩
  rw [if_neg (show ¬ xs (nI i, R, M).1.toNatClampNeg &&& 31 = 22 from c22)]
  by_cases c23 : xs (nI i).toNatClampNeg &&& 31 = 23
  · rw [if_pos (show xs (nI i, R, M).1.toNatClampNeg &&& 31 = 23 from c23)]
    obtain ⟨R', M', e, h'⟩ := pl_23 (xs := xs) h hi hL
    rw [show f_law_23 xs L (nI i, R, M).1 (nI i, R, M).2.1 (nI i, R, M).2.2 = _ from e, bd_some]
    exact ⟨R', M', rfl, h'⟩
  rw [if_neg (show ¬ xs (nI i, R, M).1.toNatClampNeg &&& 31 = 23 from c23)]
  exact ⟨R, M, rfl, h⟩
theorem pl_lp {xs : Nat → Int32} {L : Nat} (hL : L ≤ 2560) : ∀ (fuel i : Nat) (R : RcV) (M : ModelV), i ≤ L → L - i < 5 * fuel → Rel R M → lp (f_law_L xs L) fuel (nI i, R, M) = some () := by
  intro fuel
  induction fuel with
  | zero => intro i R M _ h; omega
  | succ f ih =>
    intro i R M h1 h2 h3
    by_cases q : L < i + 5
    · refine lp_end ?_
      unfold f_law_L
      rw [if_pos (show Int32.ofNat L - 5 < (nI i, R, M).1 from (pl_end hL h1).mpr q)]
    · obtain ⟨R', M', e, h'⟩ := pl_step (xs := xs) h3 (show i + 5 ≤ L by omega) hL
      rw [lp_go e, show nI i + 5 = nI (i + 5) from nI_add i 5]
      exact ih (i + 5) R' M' (by omega) (by omega) h'
theorem start_rel : Rel (iS, iS, iS, (0 : Int32), ((fun j => j + 1), (0 : Int32), (0 : Int32), (0 : Int32), (0 : Int32), (fun _ => (0 : Int32)), (fun _ => iC)), ((1000000000 : Int32), (0 : Int32), (0 : Int32), iC, (fun _ => (0 : Int32)), (fun _ => (0 : Int32)), (fun _ => (0 : Int32)), (fun _ => (0 : Int32)))) iM := by
  refine ⟨0, iS_SI, iM_MR, ⟨0, by omega, rfl, rfl, rfl, rfl, rfl, fun i hi => ?_, fun i j _ _ q => ?_, fun i hi => absurd hi (by omega), fun i j hi => absurd hi (by omega), fun i hi => absurd hi (by omega), iC_EC⟩, false, false, rfl, rfl, rfl, fun q => absurd q (by decide), fun q => absurd q (by decide)⟩
  · show 1 ≤ i + 1 ∧ i + 1 < 7
    omega
  · have q : i + 1 = j + 1 := q
    omega
theorem pure_fact : PureFact := fun xs L hL => ⟨iC, iS, iM, X0_init, X1_init, X5_init, pl_lp hL fu 0 _ _ (by omega) (show L - 0 < 5 * 1000 by omega) start_rel⟩
