/-! ===== PURE HALF. kept, image, restore, count ===== -/
theorem sm_kept {R : RcV} {M : ModelV} (h : Rel R M) (i : Int32) : Se (f_X4_kept R i) (f_X5_kept M i) := by
  obtain ⟨n, hI, hM, hS, hG⟩ := h
  obtain ⟨c, h1, h2, h3, h4, h5, h6, h7, h8, h9, h10, h11, h12⟩ := hS
  have e : (nI c - 1).toInt = (c : Int) - 1 := by
    have : ∀ n, n ≤ 8 → (nI n - 1).toInt = (n : Int) - 1 := by decide
    exact this c (by omega)
  unfold f_X4_kept f_X5_kept
  rw [show M.2.2.2.2.2.2.2.2.2.1 = nI c from h3, h2, X5_in, e, t0, bd_some]
  simp only [b2i_0, decide_eq_false_iff_not]
  by_cases q : okP c i
  · obtain ⟨k, hk, rfl⟩ := okP_n q (by omega)
    rw [if_neg (n_neg (by omega)), if_pos ((n_lt (by omega) (by omega)).mpr hk), if_neg (not_not_intro (show 0 ≤ (nI k).toInt ∧ (nI k).toInt ≤ (c : Int) - 1 from ⟨q.1, by have := q.2; omega⟩))]
    rw [gd_t (ix_n (show k < 6 by omega) (by omega)), gd_t (ix_n (show k < 6 by omega) (by omega)), cl_n (by omega), gd_t (decide_eq_true (h7 k (by omega)).2)]
    exact ⟨_, rfl, congrArg some (h9 k hk).symm⟩
  · have q2 : ¬ (0 ≤ i.toInt ∧ i.toInt ≤ (c : Int) - 1) := fun z => q ⟨z.1, by have := z.2; omega⟩
    rw [if_pos q2]
    by_cases h0 : i < 0
    · rw [if_pos h0]; exact Se_same _
    · rw [if_neg h0, if_neg (show ¬ i < nI c from fun z => q (by rw [i_lt, t0] at h0; rw [i_lt, nI_toInt (by omega)] at z; exact ⟨by omega, z⟩))]
      exact Se_same _
/-! a copy of a scene -/
theorem cpy0 {α : Type} {f g : Nat → α} {n j : Nat} (h : j < n) : va_cpy f g 0 0 n j = f j := by
  rw [pk_cpy_in (by omega) (by omega), Nat.sub_zero, Nat.zero_add]
/-- S' holds what S holds -/
def SQ (S S' : SceneV) : Prop := (∀ y, y < 16 → S'.1 y = S.1 y ∧ S'.2.1 y = S.2.1 y) ∧ S'.2.2.1 = S.2.2.1 ∧ (∀ g, g < 8 → sPx S' g = sPx S g ∧ sPy S' g = sPy S g ∧ sRe S' g = sRe S g ∧ sOut S' g = sOut S g) ∧ ∀ i, i < 512 → sRd S' i = sRd S i
theorem copyFrom_SQ (S S2 : SceneV) : ∃ S', f_X1_copyFrom S S2 = some S' ∧ SQ S2 S' :=
  ⟨_, rfl, ⟨fun y hy => ⟨cpy0 hy, cpy0 hy⟩, rfl, fun g hg => ⟨cpy0 hg, cpy0 hg, cpy0 hg, cpy0 hg⟩, fun i hi => cpy0 hi⟩⟩
theorem SQ_SI {S S' : SceneV} {n : Nat} (h : SQ S S') (hI : SI S n) : SI S' n := by
  obtain ⟨q1, q2, q3, q4⟩ := h
  obtain ⟨h1, h2, h3, h4, h5, h6, h7, h8⟩ := hI
  refine ⟨h1, q2.trans h2, fun y hy => ?_, fun g hg => ?_, fun g hg => ?_, fun g d hg hd => ?_, fun g hg hg8 => ⟨?_, ?_, fun d hd => ?_⟩, fun i j hi hj e1 e2 => ?_⟩
  · rw [(q1 y hy).1, (q1 y hy).2]; exact h3 y hy
  · rw [(q3 g (by omega)).1, (q3 g (by omega)).2.1]; exact h4 g hg
  · rw [(q3 g (by omega)).2.2.1]; exact h5 g hg
  · rw [q4 (g * 64 + d) (by omega)]; exact h6 g d hg hd
  · rw [(q3 g hg8).2.2.1]; exact (h7 g hg hg8).1
  · rw [(q3 g hg8).2.2.2]; exact (h7 g hg hg8).2.1
  · rw [q4 (g * 64 + d) (by omega)]; exact (h7 g hg hg8).2.2 d hd
  · rw [(q3 i (by omega)).1, (q3 j (by omega)).1] at e1
    rw [(q3 i (by omega)).2.1, (q3 j (by omega)).2.1] at e2
    exact h8 i j hi hj e1 e2
/-- the arrays fr .. rd hold what fr' .. rd' hold -/
theorem MR_SQ {S S' : SceneV} {n : Nat} {fr to px py re iso rd fr' to' px' py' re' iso' rd' : Nat → Int32} {mn mn' : Int32} (h8 : n ≤ 8) (h : SQ S S') (hM : MR S n fr to mn px py re iso rd) (a1 : ∀ y, y < 16 → fr' y = fr y ∧ to' y = to y) (a2 : mn' = mn) (a3 : ∀ g, g < 8 → px' g = px g ∧ py' g = py g ∧ re' g = re g) (a4 : ∀ i, i < 512 → (iso' i = vp_nar .boolean (iso i) ∨ iso' i = iso i) ∧ rd' i = rd i) : MR S' n fr' to' mn' px' py' re' iso' rd' := by
  obtain ⟨q1, q2, q3, q4⟩ := h
  obtain ⟨m1, m2, m3⟩ := hM
  refine ⟨fun y hy => ⟨?_, ?_⟩, a2.trans m2, fun g hg => ?_⟩
  · rw [(a1 y hy).1, (m1 y hy).1, (q1 y hy).1]
  · rw [(a1 y hy).2, (m1 y hy).2, (q1 y hy).2]
  · obtain ⟨p1, p2, p3, p4⟩ := m3 g hg
    obtain ⟨r1, r2, r3, r4⟩ := q3 g (by omega)
    obtain ⟨s1, s2, s3⟩ := a3 g (by omega)
    refine ⟨by rw [s1, p1, r1], by rw [s2, p2, r2], by rw [s3, p3, r3], fun d hd => ⟨?_, ?_⟩⟩
    · rcases (a4 (g * 64 + d) (by omega)).1 with e | e
      · rw [e, (p4 d hd).1, nar_b, r4]
      · rw [e, (p4 d hd).1, r4]
    · rw [(a4 (g * 64 + d) (by omega)).2, (p4 d hd).2, q4 (g * 64 + d) (by omega)]
/-! the reference's loops of image -/
abbrev mI (M : ModelV) (I : ImgV) : ModelV := (M.1, M.2.1, M.2.2.1, M.2.2.2.1, M.2.2.2.2.1, M.2.2.2.2.2.1, M.2.2.2.2.2.2.1, M.2.2.2.2.2.2.2.1, M.2.2.2.2.2.2.2.2.1, M.2.2.2.2.2.2.2.2.2.1, M.2.2.2.2.2.2.2.2.2.2.1, M.2.2.2.2.2.2.2.2.2.2.2.1, M.2.2.2.2.2.2.2.2.2.2.2.2.1, I)
theorem n_mul (a b : Nat) : (OfNat.ofNat a : Int32) * nI b = nI (a * b) := pk_mul a b
theorem img_rows {k : Nat} (hk : k < 2) (M : ModelV) : ∃ r : Nat → Int32, lp (f_X5_image_L14 (nI k)) fu (0, M) = some (mI M ((mImg M).1, r, (mImg M).2.2)) ∧ (∀ y, y < 16 → r (32 * k + y) = M.1 y ∧ r (32 * k + 16 + y) = M.2.1 y) ∧ ∀ j, (j < 32 * k ∨ 32 * k + 32 ≤ j) → r j = (mImg M).2.1 j := by
  have h := lp_inv (body := f_X5_image_L14 (nI k)) (fun i (r : Nat → Int32) => (nI i, mI M ((mImg M).1, r, (mImg M).2.2))) 16 (fun i r => (∀ y, y < i → r (32 * k + y) = M.1 y ∧ r (32 * k + 16 + y) = M.2.1 y) ∧ ∀ j, (j < 32 * k ∨ 32 * k + 32 ≤ j) → r j = (mImg M).2.1 j) (fun r => mI M ((mImg M).1, r, (mImg M).2.2)) (fun i r hi hr => by
    obtain ⟨r1, r2⟩ := hr
    refine ⟨upd (upd r (32 * k + i) (M.1 i)) (32 * k + 16 + i) (M.2.1 i), ?_, fun y hy => ?_, fun j hj => ?_⟩
    · unfold f_X5_image_L14
      have c : ¬ (16 : Int32) ≤ nI i := lit_le (N := 16) (by omega) hi
      have x1 : (32 : Int32) * nI k + nI i = nI (32 * k + i) := by rw [show (32 : Int32) = nI 32 from rfl, pk_mul, nI_add]
      have x2 : (32 : Int32) * nI k + 16 + nI i = nI (32 * k + 16 + i) := by rw [show (32 : Int32) = nI 32 from rfl, show (16 : Int32) = nI 16 from rfl, pk_mul, nI_add, nI_add]
      simp only [if_neg c, x1, x2, gd_t (ix_n hi (by omega : (16 : Nat) ≤ 65536)), gd_t (ix_n (show 32 * k + i < 64 by omega) (by omega : (64 : Nat) ≤ 65536)), gd_t (ix_n (show 32 * k + 16 + i < 64 by omega) (by omega : (64 : Nat) ≤ 65536)), cl_n (show i < 65536 by omega), cl_n (show 32 * k + i < 65536 by omega), cl_n (show 32 * k + 16 + i < 65536 by omega), nI_1]
    · by_cases q : y = i
      · subst q
        exact ⟨by rw [pk_un (by omega), pk_us], by rw [pk_us]⟩
      · exact ⟨by rw [pk_un (by omega), pk_un (by omega)]; exact (r1 y (by omega)).1, by rw [pk_un (by omega), pk_un (by omega)]; exact (r1 y (by omega)).2⟩
    · rw [pk_un (by omega), pk_un (by omega)]
      exact r2 j hj) (fun r _ => by
    unfold f_X5_image_L14
    have c : (16 : Int32) ≤ nI 16 := by decide
    simp only [if_pos c]) fu 0 (mImg M).2.1 (by omega) (fu_lt (by omega)) ⟨fun y hy => absurd hy (by omega), fun j _ => rfl⟩
  exact h
theorem img_gauges {k : Nat} (hk : k < 2) (M : ModelV) : ∃ r : Nat → Int32, lp (f_X5_image_L65 (nI k)) fu (0, M) = some (mI M ((mImg M).1, (mImg M).2.1, (mImg M).2.2.1, r, (mImg M).2.2.2.2)) ∧ (∀ g, g < 8 → r (24 * k + 3 * g) = M.2.2.2.1 g ∧ r (24 * k + 3 * g + 1) = M.2.2.2.2.1 g ∧ r (24 * k + 3 * g + 2) = M.2.2.2.2.2.1 g) ∧ ∀ j, (j < 24 * k ∨ 24 * k + 24 ≤ j) → r j = (mImg M).2.2.2.1 j := by
  have h := lp_inv (body := f_X5_image_L65 (nI k)) (fun i (r : Nat → Int32) => (nI i, mI M ((mImg M).1, (mImg M).2.1, (mImg M).2.2.1, r, (mImg M).2.2.2.2))) 8 (fun i r => (∀ g, g < i → r (24 * k + 3 * g) = M.2.2.2.1 g ∧ r (24 * k + 3 * g + 1) = M.2.2.2.2.1 g ∧ r (24 * k + 3 * g + 2) = M.2.2.2.2.2.1 g) ∧ ∀ j, (j < 24 * k ∨ 24 * k + 24 ≤ j) → r j = (mImg M).2.2.2.1 j) (fun r => mI M ((mImg M).1, (mImg M).2.1, (mImg M).2.2.1, r, (mImg M).2.2.2.2)) (fun i r hi hr => by
    obtain ⟨r1, r2⟩ := hr
    refine ⟨upd (upd (upd r (24 * k + 3 * i) (M.2.2.2.1 i)) (24 * k + 3 * i + 1) (M.2.2.2.2.1 i)) (24 * k + 3 * i + 2) (M.2.2.2.2.2.1 i), ?_, fun y hy => ?_, fun j hj => ?_⟩
    · unfold f_X5_image_L65
      have c : ¬ (8 : Int32) ≤ nI i := lit_le (N := 8) (by omega) hi
      have x1 : (24 : Int32) * nI k + 3 * nI i = nI (24 * k + 3 * i) := by rw [show (24 : Int32) = nI 24 from rfl, show (3 : Int32) = nI 3 from rfl, pk_mul, pk_mul, nI_add]
      have x2 : nI (24 * k + 3 * i) + 2 = nI (24 * k + 3 * i + 2) := nI_add _ 2
      simp only [if_neg c, x1, x2, nI_1, gd_t (ix_n hi (by omega : (8 : Nat) ≤ 65536)), gd_t (ix_n (show 24 * k + 3 * i < 48 by omega) (by omega : (48 : Nat) ≤ 65536)), gd_t (ix_n (show 24 * k + 3 * i + 1 < 48 by omega) (by omega : (48 : Nat) ≤ 65536)), gd_t (ix_n (show 24 * k + 3 * i + 2 < 48 by omega) (by omega : (48 : Nat) ≤ 65536)), cl_n (show i < 65536 by omega), cl_n (show 24 * k + 3 * i < 65536 by omega), cl_n (show 24 * k + 3 * i + 1 < 65536 by omega), cl_n (show 24 * k + 3 * i + 2 < 65536 by omega)]
    · by_cases q : y = i
      · subst q
        exact ⟨by rw [pk_un (by omega), pk_un (by omega), pk_us], by rw [pk_un (by omega), pk_us], by rw [pk_us]⟩
      · exact ⟨by rw [pk_un (by omega), pk_un (by omega), pk_un (by omega)]; exact (r1 y (by omega)).1, by rw [pk_un (by omega), pk_un (by omega), pk_un (by omega)]; exact (r1 y (by omega)).2.1, by rw [pk_un (by omega), pk_un (by omega), pk_un (by omega)]; exact (r1 y (by omega)).2.2⟩
    · rw [pk_un (by omega), pk_un (by omega), pk_un (by omega)]
      exact r2 j hj) (fun r _ => by
    unfold f_X5_image_L65
    have c : (8 : Int32) ≤ nI 8 := by decide
    simp only [if_pos c]) fu 0 (mImg M).2.2.2.1 (by omega) (fu_lt (by omega)) ⟨fun y hy => absurd hy (by omega), fun j _ => rfl⟩
  exact h
theorem img_days {k : Nat} (hk : k < 2) (M : ModelV) : ∃ z : (Nat → Int32) × (Nat → Int32), lp (f_X5_image_L140 (nI k)) fu (0, M) = some (mI M ((mImg M).1, (mImg M).2.1, (mImg M).2.2.1, (mImg M).2.2.2.1, z.1, z.2)) ∧ (∀ i, i < 512 → z.1 (512 * k + i) = vp_nar .boolean (M.2.2.2.2.2.2.1 i) ∧ z.2 (512 * k + i) = M.2.2.2.2.2.2.2.1 i) ∧ ∀ j, (j < 512 * k ∨ 512 * k + 512 ≤ j) → z.1 j = (mImg M).2.2.2.2.1 j ∧ z.2 j = (mImg M).2.2.2.2.2 j := by
  have h := lp_inv (body := f_X5_image_L140 (nI k)) (fun i (z : (Nat → Int32) × (Nat → Int32)) => (nI i, mI M ((mImg M).1, (mImg M).2.1, (mImg M).2.2.1, (mImg M).2.2.2.1, z.1, z.2))) 512 (fun i z => (∀ g, g < i → z.1 (512 * k + g) = vp_nar .boolean (M.2.2.2.2.2.2.1 g) ∧ z.2 (512 * k + g) = M.2.2.2.2.2.2.2.1 g) ∧ ∀ j, (j < 512 * k ∨ 512 * k + 512 ≤ j) → z.1 j = (mImg M).2.2.2.2.1 j ∧ z.2 j = (mImg M).2.2.2.2.2 j) (fun z => mI M ((mImg M).1, (mImg M).2.1, (mImg M).2.2.1, (mImg M).2.2.2.1, z.1, z.2)) (fun i z hi hz => by
    obtain ⟨r1, r2⟩ := hz
    refine ⟨(upd z.1 (512 * k + i) (vp_nar .boolean (M.2.2.2.2.2.2.1 i)), upd z.2 (512 * k + i) (M.2.2.2.2.2.2.2.1 i)), ?_, fun y hy => ?_, fun j hj => ?_⟩
    · unfold f_X5_image_L140
      have c : ¬ (512 : Int32) ≤ nI i := lit_le (N := 512) (by omega) hi
      have x1 : (512 : Int32) * nI k + nI i = nI (512 * k + i) := by rw [show (512 : Int32) = nI 512 from rfl, pk_mul, nI_add]
      simp only [if_neg c, x1, nI_1, gd_t (ix_n hi (by omega : (512 : Nat) ≤ 65536)), gd_t (ix_n (show 512 * k + i < 1024 by omega) (by omega : (1024 : Nat) ≤ 65536)), cl_n (show i < 65536 by omega), cl_n (show 512 * k + i < 65536 by omega)]
    · by_cases q : y = i
      · subst q
        exact ⟨pk_us, pk_us⟩
      · have e : ¬ 512 * k + y = 512 * k + i := by omega
        exact ⟨(pk_un e).trans (r1 y (by omega)).1, (pk_un e).trans (r1 y (by omega)).2⟩
    · have e : ¬ j = 512 * k + i := by omega
      exact ⟨(pk_un e).trans (r2 j hj).1, (pk_un e).trans (r2 j hj).2⟩) (fun r _ => by
    unfold f_X5_image_L140
    have c : (512 : Int32) ≤ nI 512 := by decide
    simp only [if_pos c]) fu 0 ((mImg M).2.2.2.2.1, (mImg M).2.2.2.2.2) (by omega) (fu_lt (by omega)) ⟨fun y hy => absurd hy (by omega), fun j _ => ⟨rfl, rfl⟩⟩
  exact h
