/-! ===== PURE HALF. image, restore, count ===== -/
theorem X5_image {k : Nat} (hk : k < 2) (M : ModelV) : ∃ (r rg : Nat → Int32) (z : (Nat → Int32) × (Nat → Int32)), f_X5_image M (nI k) = some (1, mI M (upd (mImg M).1 k 1, r, upd (mImg M).2.2.1 k M.2.2.1, rg, z.1, z.2)) ∧ ((∀ y, y < 16 → r (32 * k + y) = M.1 y ∧ r (32 * k + 16 + y) = M.2.1 y) ∧ ∀ j, (j < 32 * k ∨ 32 * k + 32 ≤ j) → r j = (mImg M).2.1 j) ∧ ((∀ g, g < 8 → rg (24 * k + 3 * g) = M.2.2.2.1 g ∧ rg (24 * k + 3 * g + 1) = M.2.2.2.2.1 g ∧ rg (24 * k + 3 * g + 2) = M.2.2.2.2.2.1 g) ∧ ∀ j, (j < 24 * k ∨ 24 * k + 24 ≤ j) → rg j = (mImg M).2.2.2.1 j) ∧ ((∀ i, i < 512 → z.1 (512 * k + i) = vp_nar .boolean (M.2.2.2.2.2.2.1 i) ∧ z.2 (512 * k + i) = M.2.2.2.2.2.2.2.1 i) ∧ ∀ j, (j < 512 * k ∨ 512 * k + 512 ≤ j) → z.1 j = (mImg M).2.2.2.2.1 j ∧ z.2 j = (mImg M).2.2.2.2.2 j) := by
  obtain ⟨r, e1, r1, r2⟩ := img_rows hk M
  obtain ⟨rg, e2, g1, g2⟩ := img_gauges hk (mI M ((mImg M).1, r, (mImg M).2.2))
  obtain ⟨z, e3, z1, z2⟩ := img_days hk (mI M ((mImg M).1, r, (mImg M).2.2.1, rg, (mImg M).2.2.2.2))
  refine ⟨r, rg, z, ?_, ⟨r1, r2⟩, ⟨g1, g2⟩, ⟨z1, z2⟩⟩
  unfold f_X5_image
  have h2 : okP 2 (nI k) := okP_of hk (by omega)
  rw [in_1, decide_eq_true h2, bd_some, if_neg (show ¬ b2i true = 0 by decide), e1, bd_some]
  rw [show lp (f_X5_image_L65 (nI k)) fu (0, mI M ((mImg M).1, r, (mImg M).2.2)) = _ from e2, bd_some]
  rw [show lp (f_X5_image_L140 (nI k)) fu (0, mI (mI M ((mImg M).1, r, (mImg M).2.2)) ((mImg (mI M ((mImg M).1, r, (mImg M).2.2))).1, (mImg (mI M ((mImg M).1, r, (mImg M).2.2))).2.1, (mImg (mI M ((mImg M).1, r, (mImg M).2.2))).2.2.1, rg, (mImg (mI M ((mImg M).1, r, (mImg M).2.2))).2.2.2.2)) = _ from e3, bd_some]
  rw [gd_t (ix_n hk (by omega)), gd_t (ix_n hk (by omega)), cl_n (by omega)]
  rfl
theorem SQ_refl (S : SceneV) : SQ S S := ⟨fun _ _ => ⟨rfl, rfl⟩, rfl, fun _ _ => ⟨rfl, rfl, rfl, rfl⟩, fun _ _ => rfl⟩
theorem IR_keep {S : SceneV} {j : Nat} {I I' : ImgV} (h : IR S j I) (a1 : ∀ y, y < 32 → I'.2.1 (32 * j + y) = I.2.1 (32 * j + y)) (a2 : I'.2.2.1 j = I.2.2.1 j) (a3 : ∀ g, g < 24 → I'.2.2.2.1 (24 * j + g) = I.2.2.2.1 (24 * j + g)) (a4 : ∀ i, i < 512 → I'.2.2.2.2.1 (512 * j + i) = I.2.2.2.2.1 (512 * j + i) ∧ I'.2.2.2.2.2 (512 * j + i) = I.2.2.2.2.2 (512 * j + i)) : IR S j I' := by
  obtain ⟨n, hI, hM⟩ := h
  exact ⟨n, hI, MR_SQ hI.1 (SQ_refl S) hM (fun y hy => ⟨a1 y (by omega), by have := a1 (16 + y) (by omega); rw [← Nat.add_assoc] at this; exact this⟩) a2 (fun g hg => ⟨a3 (3 * g) (by omega), a3 (3 * g + 1) (by omega), a3 (3 * g + 2) (by omega)⟩) (fun i hi => ⟨Or.inr (a4 i hi).1, (a4 i hi).2⟩)⟩
theorem mask0 (b0 b1 : Bool) : (b0.toNat + 2 * b1.toNat) ||| 2 ^ 0 = true.toNat + 2 * b1.toNat := by cases b0 <;> cases b1 <;> rfl
theorem mask1 (b0 b1 : Bool) : (b0.toNat + 2 * b1.toNat) ||| 2 ^ 1 = b0.toNat + 2 * true.toNat := by cases b0 <;> cases b1 <;> rfl
theorem mask_lt (b0 b1 : Bool) : b0.toNat + 2 * b1.toNat < 256 := by cases b0 <;> cases b1 <;> decide
theorem maskb (b0 b1 : Bool) : (b0.toNat + 2 * b1.toNat).testBit 0 = b0 ∧ (b0.toNat + 2 * b1.toNat).testBit 1 = b1 := by cases b0 <;> cases b1 <;> decide
theorem ok_2 (x : Int32) : okP 2 x ↔ ¬ x < 0 ∧ x < 2 := by
  rw [i_lt, i_lt, t0]
  show 0 ≤ x.toInt ∧ x.toInt < 2 ↔ _
  have : (2 : Int32).toInt = 2 := by decide
  omega
theorem sm_image {R : RcV} {M : ModelV} (h : Rel R M) (k : Int32) : Sm (f_X4_image R k) (f_X5_image M k) := by
  have hR := h
  obtain ⟨n, hL⟩ := h
  obtain ⟨hI, hM, hS, b0, b1, i0, i1, iw, j0, j1⟩ := hL
  by_cases hk : okP 2 k
  · have hk2 := (ok_2 k).mp hk
    obtain ⟨m, hm, rfl⟩ := okP_n hk (by omega)
    obtain ⟨r, rg, z, e1, ⟨r1, r2⟩, ⟨g1, g2⟩, ⟨z1, z2⟩⟩ := X5_image hm M
    rw [e1]
    unfold f_X4_image
    rw [if_neg hk2.1, if_pos hk2.2, gd_t (ix_n hm (by omega)), iw]
    rcases (show m = 0 ∨ m = 1 by omega) with rfl | rfl
    · rw [if_pos (show nI 0 = 0 from rfl)]
      obtain ⟨A, a1, a2⟩ := copyFrom_SQ R.2.1 R.1
      rw [a1, bd_some, X4_with (mask_lt b0 b1) (by omega), bd_some, mask0]
      refine ⟨_, _, _, rfl, rfl, n, hI, hM, hS, true, b1, rfl, i1, rfl, fun _ => ⟨n, SQ_SI a2 hI, ?_⟩, fun q => IR_keep (j1 q) ?_ ?_ ?_ ?_⟩
      · exact MR_SQ hI.1 a2 hM (fun y hy => r1 y hy) rfl (fun g hg => g1 g hg) (fun i hi => ⟨Or.inl (z1 i hi).1, (z1 i hi).2⟩)
      · exact fun y hy => r2 _ (by omega)
      · rfl
      · exact fun g hg => g2 _ (by omega)
      · exact fun i hi => z2 _ (by omega)
    · rw [if_neg (show ¬ nI 1 = 0 by decide)]
      obtain ⟨A, a1, a2⟩ := copyFrom_SQ R.2.2.1 R.1
      rw [a1, bd_some, X4_with (mask_lt b0 b1) (by omega), bd_some, mask1]
      refine ⟨_, _, _, rfl, rfl, n, hI, hM, hS, b0, true, i0, rfl, rfl, fun q => IR_keep (j0 q) ?_ ?_ ?_ ?_, fun _ => ⟨n, SQ_SI a2 hI, ?_⟩⟩
      · exact fun y hy => r2 _ (by omega)
      · rfl
      · exact fun g hg => g2 _ (by omega)
      · exact fun i hi => z2 _ (by omega)
      · exact MR_SQ hI.1 a2 hM (fun y hy => r1 y hy) rfl (fun g hg => g1 g hg) (fun i hi => ⟨Or.inl (z1 i hi).1, (z1 i hi).2⟩)
  · have hk2 := fun q => hk ((ok_2 k).mpr q)
    unfold f_X4_image f_X5_image
    rw [in_1, decide_eq_false hk, bd_some, if_pos (show b2i false = 0 from rfl)]
    by_cases h0 : k < 0
    · rw [if_pos h0]
      exact Sm_same hR _
    · rw [if_neg h0, if_neg (fun q => hk2 ⟨h0, q⟩)]
      exact Sm_same hR _
/-! the reference's loops of restore -/
theorem res_rows {k : Nat} (hk : k < 2) (M : ModelV) : ∃ z : (Nat → Int32) × (Nat → Int32), lp (f_X5_restore_L26 (nI k)) fu (0, M) = some (z.1, z.2, M.2.2) ∧ ∀ y, y < 16 → z.1 y = (mImg M).2.1 (32 * k + y) ∧ z.2 y = (mImg M).2.1 (32 * k + 16 + y) := by
  have h := lp_inv (body := f_X5_restore_L26 (nI k)) (fun i (z : (Nat → Int32) × (Nat → Int32)) => (nI i, ((z.1, z.2, M.2.2) : ModelV))) 16 (fun i z => ∀ y, y < i → z.1 y = (mImg M).2.1 (32 * k + y) ∧ z.2 y = (mImg M).2.1 (32 * k + 16 + y)) (fun z => ((z.1, z.2, M.2.2) : ModelV)) (fun i z hi hz => by
    refine ⟨(upd z.1 i ((mImg M).2.1 (32 * k + i)), upd z.2 i ((mImg M).2.1 (32 * k + 16 + i))), ?_, fun y hy => ?_⟩
    · unfold f_X5_restore_L26
      have c : ¬ (16 : Int32) ≤ nI i := lit_le (N := 16) (by omega) hi
      have x1 : (32 : Int32) * nI k + nI i = nI (32 * k + i) := by rw [show (32 : Int32) = nI 32 from rfl, pk_mul, nI_add]
      have x2 : (32 : Int32) * nI k + 16 + nI i = nI (32 * k + 16 + i) := by rw [show (32 : Int32) = nI 32 from rfl, show (16 : Int32) = nI 16 from rfl, pk_mul, nI_add, nI_add]
      simp only [if_neg c, x1, x2, gd_t (ix_n hi (by omega : (16 : Nat) ≤ 65536)), gd_t (ix_n (show 32 * k + i < 64 by omega) (by omega : (64 : Nat) ≤ 65536)), gd_t (ix_n (show 32 * k + 16 + i < 64 by omega) (by omega : (64 : Nat) ≤ 65536)), cl_n (show i < 65536 by omega), cl_n (show 32 * k + i < 65536 by omega), cl_n (show 32 * k + 16 + i < 65536 by omega), nI_1]
    · by_cases q : y = i
      · subst q
        exact ⟨pk_us, pk_us⟩
      · exact ⟨(pk_un q).trans (hz y (by omega)).1, (pk_un q).trans (hz y (by omega)).2⟩) (fun r _ => by
    unfold f_X5_restore_L26
    have c : (16 : Int32) ≤ nI 16 := by decide
    simp only [if_pos c]) fu 0 (M.1, M.2.1) (by omega) (fu_lt (by omega)) (fun y hy => absurd hy (by omega))
  exact h
theorem res_gauges {k : Nat} (hk : k < 2) (M : ModelV) : ∃ z : (Nat → Int32) × (Nat → Int32) × (Nat → Int32), lp (f_X5_restore_L77 (nI k)) fu (0, M) = some (M.1, M.2.1, M.2.2.1, z.1, z.2.1, z.2.2, M.2.2.2.2.2.2) ∧ ∀ g, g < 8 → z.1 g = (mImg M).2.2.2.1 (24 * k + 3 * g) ∧ z.2.1 g = (mImg M).2.2.2.1 (24 * k + 3 * g + 1) ∧ z.2.2 g = (mImg M).2.2.2.1 (24 * k + 3 * g + 2) := by
  have h := lp_inv (body := f_X5_restore_L77 (nI k)) (fun i (z : (Nat → Int32) × (Nat → Int32) × (Nat → Int32)) => (nI i, ((M.1, M.2.1, M.2.2.1, z.1, z.2.1, z.2.2, M.2.2.2.2.2.2) : ModelV))) 8 (fun i z => ∀ g, g < i → z.1 g = (mImg M).2.2.2.1 (24 * k + 3 * g) ∧ z.2.1 g = (mImg M).2.2.2.1 (24 * k + 3 * g + 1) ∧ z.2.2 g = (mImg M).2.2.2.1 (24 * k + 3 * g + 2)) (fun z => ((M.1, M.2.1, M.2.2.1, z.1, z.2.1, z.2.2, M.2.2.2.2.2.2) : ModelV)) (fun i z hi hz => by
    refine ⟨(upd z.1 i ((mImg M).2.2.2.1 (24 * k + 3 * i)), upd z.2.1 i ((mImg M).2.2.2.1 (24 * k + 3 * i + 1)), upd z.2.2 i ((mImg M).2.2.2.1 (24 * k + 3 * i + 2))), ?_, fun y hy => ?_⟩
    · unfold f_X5_restore_L77
      have c : ¬ (8 : Int32) ≤ nI i := lit_le (N := 8) (by omega) hi
      have x1 : (24 : Int32) * nI k + 3 * nI i = nI (24 * k + 3 * i) := by rw [show (24 : Int32) = nI 24 from rfl, show (3 : Int32) = nI 3 from rfl, pk_mul, pk_mul, nI_add]
      have x2 : nI (24 * k + 3 * i) + 2 = nI (24 * k + 3 * i + 2) := nI_add _ 2
      simp only [if_neg c, x1, x2, nI_1, gd_t (ix_n hi (by omega : (8 : Nat) ≤ 65536)), gd_t (ix_n (show 24 * k + 3 * i < 48 by omega) (by omega : (48 : Nat) ≤ 65536)), gd_t (ix_n (show 24 * k + 3 * i + 1 < 48 by omega) (by omega : (48 : Nat) ≤ 65536)), gd_t (ix_n (show 24 * k + 3 * i + 2 < 48 by omega) (by omega : (48 : Nat) ≤ 65536)), cl_n (show i < 65536 by omega), cl_n (show 24 * k + 3 * i < 65536 by omega), cl_n (show 24 * k + 3 * i + 1 < 65536 by omega), cl_n (show 24 * k + 3 * i + 2 < 65536 by omega)]
    · by_cases q : y = i
      · subst q
        exact ⟨pk_us, pk_us, pk_us⟩
      · exact ⟨(pk_un q).trans (hz y (by omega)).1, (pk_un q).trans (hz y (by omega)).2.1, (pk_un q).trans (hz y (by omega)).2.2⟩) (fun r _ => by
    unfold f_X5_restore_L77
    have c : (8 : Int32) ≤ nI 8 := by decide
    simp only [if_pos c]) fu 0 (M.2.2.2.1, M.2.2.2.2.1, M.2.2.2.2.2.1) (by omega) (fu_lt (by omega)) (fun y hy => absurd hy (by omega))
  exact h
theorem res_days {k : Nat} (hk : k < 2) (M : ModelV) : ∃ z : (Nat → Int32) × (Nat → Int32), lp (f_X5_restore_L152 (nI k)) fu (0, M) = some (M.1, M.2.1, M.2.2.1, M.2.2.2.1, M.2.2.2.2.1, M.2.2.2.2.2.1, z.1, z.2, M.2.2.2.2.2.2.2.2) ∧ ∀ i, i < 512 → z.1 i = vp_nar .boolean ((mImg M).2.2.2.2.1 (512 * k + i)) ∧ z.2 i = (mImg M).2.2.2.2.2 (512 * k + i) := by
  have h := lp_inv (body := f_X5_restore_L152 (nI k)) (fun i (z : (Nat → Int32) × (Nat → Int32)) => (nI i, ((M.1, M.2.1, M.2.2.1, M.2.2.2.1, M.2.2.2.2.1, M.2.2.2.2.2.1, z.1, z.2, M.2.2.2.2.2.2.2.2) : ModelV))) 512 (fun i z => ∀ g, g < i → z.1 g = vp_nar .boolean ((mImg M).2.2.2.2.1 (512 * k + g)) ∧ z.2 g = (mImg M).2.2.2.2.2 (512 * k + g)) (fun z => ((M.1, M.2.1, M.2.2.1, M.2.2.2.1, M.2.2.2.2.1, M.2.2.2.2.2.1, z.1, z.2, M.2.2.2.2.2.2.2.2) : ModelV)) (fun i z hi hz => by
    refine ⟨(upd z.1 i (vp_nar .boolean ((mImg M).2.2.2.2.1 (512 * k + i))), upd z.2 i ((mImg M).2.2.2.2.2 (512 * k + i))), ?_, fun y hy => ?_⟩
    · unfold f_X5_restore_L152
      have c : ¬ (512 : Int32) ≤ nI i := lit_le (N := 512) (by omega) hi
      have x1 : (512 : Int32) * nI k + nI i = nI (512 * k + i) := by rw [show (512 : Int32) = nI 512 from rfl, pk_mul, nI_add]
      simp only [if_neg c, x1, nI_1, gd_t (ix_n hi (by omega : (512 : Nat) ≤ 65536)), gd_t (ix_n (show 512 * k + i < 1024 by omega) (by omega : (1024 : Nat) ≤ 65536)), cl_n (show i < 65536 by omega), cl_n (show 512 * k + i < 65536 by omega)]
    · by_cases q : y = i
      · subst q
        exact ⟨pk_us, pk_us⟩
      · exact ⟨(pk_un q).trans (hz y (by omega)).1, (pk_un q).trans (hz y (by omega)).2⟩) (fun r _ => by
    unfold f_X5_restore_L152
    have c : (512 : Int32) ≤ nI 512 := by decide
    simp only [if_pos c]) fu 0 (M.2.2.2.2.2.2.1, M.2.2.2.2.2.2.2.1) (by omega) (fu_lt (by omega)) (fun y hy => absurd hy (by omega))
  exact h
theorem X5_restore {k : Nat} (hk : k < 2) (M : ModelV) (h1 : (mImg M).1 k ≠ 0) : ∃ fr to px py re iso rd : Nat → Int32, f_X5_restore M (nI k) = some (1, (fr, to, (mImg M).2.2.1 k, px, py, re, iso, rd, M.2.2.2.2.2.2.2.2.1, 0, M.2.2.2.2.2.2.2.2.2.2)) ∧ (∀ y, y < 16 → fr y = (mImg M).2.1 (32 * k + y) ∧ to y = (mImg M).2.1 (32 * k + 16 + y)) ∧ (∀ g, g < 8 → px g = (mImg M).2.2.2.1 (24 * k + 3 * g) ∧ py g = (mImg M).2.2.2.1 (24 * k + 3 * g + 1) ∧ re g = (mImg M).2.2.2.1 (24 * k + 3 * g + 2)) ∧ ∀ i, i < 512 → iso i = vp_nar .boolean ((mImg M).2.2.2.2.1 (512 * k + i)) ∧ rd i = (mImg M).2.2.2.2.2 (512 * k + i) := by
  obtain ⟨a, e1, a1⟩ := res_rows hk M
  obtain ⟨b, e2, b1⟩ := res_gauges hk (a.1, a.2, M.2.2)
  obtain ⟨c, e3, c1⟩ := res_days hk (a.1, a.2, M.2.2.1, b.1, b.2.1, b.2.2, M.2.2.2.2.2.2)
  refine ⟨a.1, a.2, b.1, b.2.1, b.2.2, c.1, c.2, ?_, a1, b1, c1⟩
  unfold f_X5_restore
  have h2 : okP 2 (nI k) := okP_of hk (by omega)
  rw [in_1, decide_eq_true h2, bd_some, if_neg (show ¬ b2i true = 0 by decide), gd_t (ix_n hk (by omega)), cl_n (show k < 65536 by omega), if_neg h1, e1, bd_some]
  rw [show lp (f_X5_restore_L77 (nI k)) fu (0, (a.1, a.2, M.2.2)) = _ from e2, bd_some]
  rw [show lp (f_X5_restore_L152 (nI k)) fu (0, (a.1, a.2, M.2.2.1, b.1, b.2.1, b.2.2, M.2.2.2.2.2.2)) = _ from e3, bd_some]
  rw [gd_t (ix_n hk (by omega))]
theorem b2i_n0 (b : Bool) : (b2i b ≠ 0) ↔ b = true := by cases b <;> decide
theorem res_main {n k : Nat} {R : RcV} {M : ModelV} {A : SceneV} (hS : SR R.1 n R.2.2.2.2.1 M) (hG : IM R.2.1 R.2.2.1 R.2.2.2.1 (mImg M)) (hk : k < 2) (h1 : (mImg M).1 k ≠ 0) (hA : IR A k (mImg M)) : Sm ((f_X1_copyFrom R.1 A).bind (fun x8 => (f_X3_letAllGo R.2.2.2.2.1).bind (fun x10 => some (1, (x8, R.2.1, R.2.2.1, R.2.2.2.1, x10, R.2.2.2.2.2))))) (f_X5_restore M (nI k)) := by
  obtain ⟨fr, to, px, py, re, iso, rd, e1, a1, a2, a3⟩ := X5_restore hk M h1
  obtain ⟨S', s1, s2⟩ := copyFrom_SQ R.1 A
  obtain ⟨m, hI, hM⟩ := hA
  rw [e1, s1, bd_some]
  exact ⟨_, _, _, rfl, rfl, m, SQ_SI s2 hI, MR_SQ hI.1 s2 hM a1 rfl a2 (fun i hi => ⟨Or.inl (a3 i hi).1, (a3 i hi).2⟩), SR_go S' m hS rfl rfl rfl rfl, hG⟩
theorem sm_restore {R : RcV} {M : ModelV} (h : Rel R M) (k : Int32) : Sm (f_X4_restore R k) (f_X5_restore M k) := by
  have hR := h
  obtain ⟨n, hL⟩ := h
  obtain ⟨hI, hM, hS, hG⟩ := hL
  have hG2 := hG
  obtain ⟨b0, b1, i0, i1, iw, j0, j1⟩ := hG2
  by_cases hk : okP 2 k
  · have hk2 := (ok_2 k).mp hk
    obtain ⟨m, hm, rfl⟩ := okP_n hk (by omega)
    unfold f_X4_restore
    rw [if_neg hk2.1, if_pos hk2.2, gd_t (ix_n hm (by omega)), iw, X4_isIn (mask_lt b0 b1) (by omega), bd_some]
    rcases (show m = 0 ∨ m = 1 by omega) with rfl | rfl
    · rw [(maskb b0 b1).1, if_pos (show nI 0 = 0 from rfl)]
      cases b0 with
      | true =>
        rw [if_neg (show ¬ b2i true = 0 by decide), ← iw]
        exact res_main hS hG hm (by rw [i0]; decide) (j0 rfl)
      | false =>
        rw [if_pos (show b2i false = 0 from rfl)]
        unfold f_X5_restore
        rw [in_1, decide_eq_true hk, bd_some, if_neg (show ¬ b2i true = 0 by decide), gd_t (ix_n hm (by omega)), cl_n (show (0 : Nat) < 65536 by omega), if_pos (show M.2.2.2.2.2.2.2.2.2.2.2.2.2.1 0 = 0 from i0)]
        exact Sm_same hR _
    · rw [(maskb b0 b1).2, if_neg (show ¬ nI 1 = 0 by decide)]
      cases b1 with
      | true =>
        rw [if_neg (show ¬ b2i true = 0 by decide), ← iw]
        exact res_main hS hG hm (by rw [i1]; decide) (j1 rfl)
      | false =>
        rw [if_pos (show b2i false = 0 from rfl)]
        unfold f_X5_restore
        rw [in_1, decide_eq_true hk, bd_some, if_neg (show ¬ b2i true = 0 by decide), gd_t (ix_n hm (by omega)), cl_n (show (1 : Nat) < 65536 by omega), if_pos (show M.2.2.2.2.2.2.2.2.2.2.2.2.2.1 1 = 0 from i1)]
        exact Sm_same hR _
  · have hk2 := fun q => hk ((ok_2 k).mpr q)
    unfold f_X4_restore f_X5_restore
    rw [in_1, decide_eq_false hk, bd_some, if_pos (show b2i false = 0 from rfl)]
    by_cases h0 : k < 0
    · rw [if_pos h0]
      exact Sm_same hR _
    · rw [if_neg h0, if_neg (fun q => hk2 ⟨h0, q⟩)]
      exact Sm_same hR _
