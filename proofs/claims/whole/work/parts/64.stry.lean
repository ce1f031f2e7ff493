/-! ===== PURE HALF. search: one more gauge at a place ===== -/
/-- how far plot p is, with one more gauge at x0, y0 -/
def dNat (x0 y0 p : Nat) : Nat := sqd (p % 16) x0 + sqd (p / 16) y0
def tt (S : SceneV) (n s x0 y0 p : Nat) : Nat := if plB S (p % 16) (p / 16) = true then (if lefP S n s p ≤ nI (dNat x0 y0 p) then fN S n s p else dNat x0 y0 p) else 0
theorem dNat_le {x0 y0 p : Nat} (hx : x0 < 16) (hy : y0 < 16) (hp : p < 256) : dNat x0 y0 p ≤ 450 := by
  unfold dNat
  have h1 := sqd_le (p % 16) (by omega) x0 hx
  have h2 := sqd_le (p / 16) (by omega) y0 hy
  omega
theorem tt_le {S : SceneV} {n s x0 y0 p : Nat} (hI : SI S n) (hx : x0 < 16) (hy : y0 < 16) (hp : p < 256) : tt S n s x0 y0 p ≤ 2450 := by
  unfold tt
  have h1 := dNat_le hx hy hp
  have h2 := fN_le (s := s) hI hp
  split
  · split <;> omega
  · omega
theorem tt_0 {S : SceneV} {n s x0 y0 p : Nat} (h : plB S (p % 16) (p / 16) = false) : tt S n s x0 y0 p = 0 := by
  unfold tt
  rw [h, if_neg (by decide)]
abbrev tR (S : SceneV) (n s x0 y0 y : Nat) : Nat → Nat := fun i => tt S n s x0 y0 (y * 16 + i)
theorem tot_le {S : SceneV} {n s x0 y0 : Nat} (hI : SI S n) (hx : x0 < 16) (hy : y0 < 16) : sN (tt S n s x0 y0) 256 ≤ 627200 := by
  have := sN_b (t := tt S n s x0 y0) (B := 2450) (k := 256) (fun i hi => tt_le hI hx hy hi)
  omega
theorem X2_farOfRow {S : SceneV} {n s x0 y0 y : Nat} {Z : SearchV} (hI : SI S n) (hZ : ZR S n s Z.2.2.2) (hx0 : x0 < 16) (hy0 : y0 < 16) (hy : y < 16) : f_X2_farOfRow Z S (nI y) (nI x0) (nI (sqd y y0)) = some (nI (sN (tR S n s x0 y0 y) 16)) := by
  obtain ⟨z1, z2, z3, z4⟩ := hZ
  obtain ⟨f, t, hf16, ht16, hf, ht⟩ := SI_row hI hy
  obtain ⟨N, hN⟩ : ∃ N, N = max f (t + 1) := ⟨_, rfl⟩
  have hsq := sqd_le y hy y0 hy0
  unfold f_X2_farOfRow
  rw [gd_t (ix_n hy (by omega)), cl_n (show y < 65536 by omega)]
  by_cases q : nI (sqd y y0) < Z.2.2.2.2.2.2.1 y
  · rw [if_pos q, gd_t (ix_n hy (by omega)), hf]
    have e0 : sN (tR S n s x0 y0 y) f = 0 := sN_const (a := 0) (b := f) (by omega) (fun i _ hi => by
      obtain ⟨p1, p2⟩ := p_xy (x := i) (y := y) (by omega)
      exact tt_0 (by rw [p1, p2]; exact plB_no hf ht hf16 ht16 (by omega) (by omega)))
    have e1 : sN (tR S n s x0 y0 y) 16 = sN (tR S n s x0 y0 y) N := sN_const (a := N) (b := 16) (by omega) (fun i hi hi2 => by
      obtain ⟨p1, p2⟩ := p_xy (x := i) (y := y) (by omega)
      exact tt_0 (by rw [p1, p2]; exact plB_no hf ht hf16 ht16 (by omega) (by omega)))
    have h := lp_G (body := f_X2_farOfRow_L29 Z S (nI y) (nI x0) (nI (sqd y y0))) (fun i z => (z, nI i)) f N (fun i => nI (sN (tR S n s x0 y0 y) i)) id (fun i hi1 hi2 => by
      have hi16 : i < 16 := by omega
      have hp : y * 16 + i < 256 := by omega
      obtain ⟨p1, p2⟩ := p_xy (y := y) hi16
      have hpl : plB S ((y * 16 + i) % 16) ((y * 16 + i) / 16) = true := by rw [p1, p2]; exact (plB_row hf ht hf16 ht16 hi16).mpr (by omega)
      have ed : dNat x0 y0 (y * 16 + i) = sqd i x0 + sqd y y0 := by unfold dNat; rw [p1, p2]
      have et : tt S n s x0 y0 (y * 16 + i) = if lefP S n s (y * 16 + i) ≤ nI (sqd i x0 + sqd y y0) then fN S n s (y * 16 + i) else sqd i x0 + sqd y y0 := by
        unfold tt
        rw [if_pos hpl, ed]
      unfold f_X2_farOfRow_L29
      have c : ¬ S.2.1 y < nI i := by rw [ht, n_lt (by omega) (by omega)]; omega
      simp only [gd_t (ix_n hy (by omega : (16 : Nat) ≤ 65536)), cl_n (show y < 65536 by omega), if_neg c, ix_p hi16 hy, gd_t (ix_n hp (by omega : (256 : Nat) ≤ 65536)), cl_n (show y * 16 + i < 65536 by omega), z1 _ hp, z2 _ hp hpl, sqd_n i hi16 x0 hx0, nI_add, nI_1, sN, tR, et]
      by_cases q2 : lefP S n s (y * 16 + i) ≤ nI (sqd i x0 + sqd y y0)
      · simp only [if_pos q2, bd_some, nI_add]
      · simp only [if_neg q2, bd_some, nI_add]) (by
      unfold f_X2_farOfRow_L29
      have c : S.2.1 y < nI N := by rw [ht, n_lt (by omega) (by omega)]; omega
      simp only [gd_t (ix_n hy (by omega : (16 : Nat) ≤ 65536)), cl_n (show y < 65536 by omega), if_pos c]; rfl) fu f (by omega) (by omega) (fu_lt (by omega))
    rw [e0] at h
    rw [show lp (f_X2_farOfRow_L29 Z S (nI y) (nI x0) (nI (sqd y y0))) fu (0, nI f) = _ from h, e1]
    rfl
  · rw [if_neg q, gd_t (ix_n hy (by omega))]
    have es : sN (fR S n s y) 16 = sN (tR S n s x0 y0 y) 16 := by
      refine sN_eq (fun i hi => ?_)
      obtain ⟨p1, p2⟩ := p_xy (y := y) hi
      cases hb : plB S i y with
      | false => rw [show fR S n s y i = 0 from fN_0 (by rw [p1, p2]; exact hb), show tR S n s x0 y0 y i = 0 from tt_0 (by rw [p1, p2]; exact hb)]
      | true =>
        have hl := z3 y i hy hi hb
        have hs2 := sqd_le i hi x0 hx0
        have ed : dNat x0 y0 (y * 16 + i) = sqd i x0 + sqd y y0 := by unfold dNat; rw [p1, p2]
        show fN S n s (y * 16 + i) = tt S n s x0 y0 (y * 16 + i)
        unfold tt
        rw [if_pos (show plB S ((y * 16 + i) % 16) ((y * 16 + i) / 16) = true by rw [p1, p2]; exact hb), ed, if_pos]
        rw [i_lt, nI_toInt (by omega)] at q
        rw [i_le] at hl
        rw [i_le, nI_toInt (by omega)]
        have : Z.2.2.2.2.2.2.1 y = (Z.2.2.2).2.2.2.1 y := rfl
        rw [this] at q
        omega
    rw [show Z.2.2.2.2.2.2.2 y = nI (sN (fR S n s y) 16) from z4 y hy, es]
theorem try_lp {S : SceneV} {n s x0 y0 L0 : Nat} {Z : SearchV} (hI : SI S n) (hZ : ZR S n s Z.2.2.2) (hx0 : x0 < 16) (hy0 : y0 < 16) (hL : Z.1 = nI L0) (hL2 : L0 ≤ 1000000000) : ∀ (k y fuel : Nat), 16 - y = k → y ≤ 16 → k < fuel → ∃ v, lp (f_X2_tryAt_L6 Z S (nI x0) (nI y0)) fuel (nI (sN (tt S n s x0 y0) (y * 16)), nI y) = some (nI v) ∧ (v = sN (tt S n s x0 y0) 256 ∨ (L0 ≤ v ∧ v ≤ sN (tt S n s x0 y0) 256)) := by
  intro k
  induction k with
  | zero =>
    intro y fuel hk hy hf
    obtain ⟨f', rfl⟩ : ∃ f', fuel = f' + 1 := ⟨fuel - 1, by omega⟩
    obtain rfl : y = 16 := by omega
    refine ⟨_, lp_end ?_, Or.inl rfl⟩
    unfold f_X2_tryAt_L6
    simp only [if_pos (show (16 : Int32) ≤ nI 16 by decide)]
  | succ k ih =>
    intro y fuel hk hy hf
    obtain ⟨f', rfl⟩ : ∃ f', fuel = f' + 1 := ⟨fuel - 1, by omega⟩
    have hy16 : y < 16 := by omega
    have c : ¬ (16 : Int32) ≤ nI y := lit_le (N := 16) (by omega) hy16
    have hm : sN (tt S n s x0 y0) (y * 16) ≤ sN (tt S n s x0 y0) 256 := by
      have := sN_mono (tt S n s x0 y0) (y * 16) (256 - y * 16)
      rw [show y * 16 + (256 - y * 16) = 256 by omega] at this
      exact this
    have hb := tot_le (s := s) hI hx0 hy0
    by_cases q : L0 ≤ sN (tt S n s x0 y0) (y * 16)
    · refine ⟨_, lp_end ?_, Or.inr ⟨q, hm⟩⟩
      unfold f_X2_tryAt_L6
      simp only [if_neg c, hL, if_pos ((n_le (a := L0) (b := sN (tt S n s x0 y0) (y * 16)) (by omega) (by omega)).mpr q)]
    · have st : f_X2_tryAt_L6 Z S (nI x0) (nI y0) (nI (sN (tt S n s x0 y0) (y * 16)), nI y) = some (.inl (nI (sN (tt S n s x0 y0) ((y + 1) * 16)), nI (y + 1))) := by
        unfold f_X2_tryAt_L6
        simp only [if_neg c, hL, if_neg (fun z => q ((n_le (a := L0) (b := sN (tt S n s x0 y0) (y * 16)) (by omega) (by omega)).mp z)), sqd_n y hy16 y0 hy0, X2_farOfRow hI hZ hx0 hy0 hy16, bd_some, nI_add, nI_1]
        rw [show (y + 1) * 16 = y * 16 + 16 by omega, sN_row]
      obtain ⟨v, v1, v2⟩ := ih (y + 1) f' (by omega) (by omega) (by omega)
      exact ⟨v, by rw [lp_go st]; exact v1, v2⟩
theorem X2_tryAt {S : SceneV} {n s x0 y0 L0 : Nat} {Z : SearchV} (hI : SI S n) (hZ : ZR S n s Z.2.2.2) (hx0 : x0 < 16) (hy0 : y0 < 16) (hL : Z.1 = nI L0) (hL2 : L0 ≤ 1000000000) : f_X2_tryAt Z S (nI x0) (nI y0) = some (if L0 ≤ sN (tt S n s x0 y0) 256 then Z else (nI (sN (tt S n s x0 y0) 256), nI x0, nI y0, Z.2.2.2)) := by
  obtain ⟨v, v1, v2⟩ := try_lp hI hZ hx0 hy0 hL hL2 16 0 fu rfl (by omega) (fu_lt (by omega))
  have hb := tot_le (s := s) hI hx0 hy0
  unfold f_X2_tryAt
  rw [show lp (f_X2_tryAt_L6 Z S (nI x0) (nI y0)) fu (0, 0) = _ from v1, bd_some, hL]
  rcases v2 with rfl | ⟨q1, q2⟩
  · by_cases q : L0 ≤ sN (tt S n s x0 y0) 256
    · rw [if_pos ((n_le (by omega) (by omega)).mpr q), if_pos q]
    · rw [if_neg (fun z => q ((n_le (by omega) (by omega)).mp z)), if_neg q]
  · rw [if_pos ((n_le (by omega) (by omega)).mpr q1), if_pos (show L0 ≤ sN (tt S n s x0 y0) 256 by omega)]
