/-! ===== PURE HALF. search: rows ===== -/
theorem sN_eq {t t' : Nat → Nat} : ∀ {k : Nat}, (∀ i, i < k → t i = t' i) → sN t k = sN t' k
  | 0, _ => rfl
  | k + 1, h => by rw [sN, sN, sN_eq (fun i hi => h i (by omega)), h k (by omega)]
theorem sN_b {t : Nat → Nat} {B : Nat} : ∀ {k : Nat}, (∀ i, i < k → t i ≤ B) → sN t k ≤ k * B
  | 0, _ => by show 0 ≤ _; omega
  | k + 1, h => by
    have h1 := sN_b (k := k) (fun i hi => h i (by omega))
    have h2 := h k (by omega)
    rw [sN, Nat.succ_mul]
    omega
theorem sN_const {t : Nat → Nat} {a : Nat} : ∀ {b : Nat}, a ≤ b → (∀ i, a ≤ i → i < b → t i = 0) → sN t b = sN t a
  | 0, h, _ => by rw [show a = 0 by omega]
  | b + 1, h, hz => by
    by_cases q : a = b + 1
    · rw [q]
    · rw [sN, hz b (by omega) (by omega), Nat.add_zero]
      exact sN_const (by omega) (fun i h1 h2 => hz i h1 (by omega))
theorem sN_row (t : Nat → Nat) (a : Nat) : ∀ x, sN t (a + x) = sN t a + sN (fun i => t (a + i)) x
  | 0 => rfl
  | x + 1 => by rw [← Nat.add_assoc, sN, sN, sN_row t a x]; omega
theorem sN_mono (t : Nat → Nat) (a x : Nat) : sN t a ≤ sN t (a + x) := by rw [sN_row]; omega
/-- how far apart, squared -/
def sqd (a b : Nat) : Nat := (a - b + (b - a)) * (a - b + (b - a))
theorem sqd_n : ∀ a, a < 16 → ∀ b, b < 16 → (nI a - nI b) * (nI a - nI b) = nI (sqd a b) := by decide +kernel
theorem sqd_le : ∀ a, a < 16 → ∀ b, b < 16 → sqd a b ≤ 225 := by decide +kernel
/-- how far a plot is from who has it: the class's word, and a number -/
def fP (S : SceneV) (n s p : Nat) : Int32 := if ownP S n s p = -1 then 0 else lefP S n s p + sRe S (ownP S n s p).toNatClampNeg
def fN (S : SceneV) (n s p : Nat) : Nat := if plB S (p % 16) (p / 16) = true then (fP S n s p).toNatClampNeg else 0
theorem fP_N {S : SceneV} {n s p : Nat} (hI : SI S n) (hp : p < 256) : ∃ v, v ≤ 2450 ∧ fP S n s p = nI v := by
  have h8 := hI.1
  unfold fP
  rcases own_or (s := s) hI hp with h1 | ⟨g, h1, -, h3, -⟩
  · rw [if_pos h1]; exact ⟨0, by omega, rfl⟩
  · rw [if_neg (show ¬ ownP S n s p = -1 by rw [h3]; exact n_m1 (by omega)), h3, cl_n (by omega), lef_re hI hp h1 h3]
    have hf := farS_int (x := p % 16) (y := p / 16) hI h1 (by omega) (by omega)
    obtain ⟨v, v1, v2⟩ := okP_n (N := 2451) (x := farS S g (p % 16) (p / 16)) ⟨hf.1, by have := hf.2; omega⟩ (by omega)
    exact ⟨v, by omega, v2⟩
theorem fN_le {S : SceneV} {n s p : Nat} (hI : SI S n) (hp : p < 256) : fN S n s p ≤ 2450 := by
  unfold fN
  obtain ⟨v, v1, v2⟩ := fP_N (s := s) hI hp
  split
  · rw [v2, cl_n (by omega)]; exact v1
  · omega
theorem fN_P {S : SceneV} {n s p : Nat} (hI : SI S n) (hp : p < 256) (h : plB S (p % 16) (p / 16) = true) : nI (fN S n s p) = fP S n s p := by
  unfold fN
  obtain ⟨v, v1, v2⟩ := fP_N (s := s) hI hp
  rw [if_pos h, v2, cl_n (by omega)]
theorem fN_0 {S : SceneV} {n s p : Nat} (h : plB S (p % 16) (p / 16) = false) : fN S n s p = 0 := by
  unfold fN
  rw [h, if_neg (by decide)]
/-- which squares of a row are plots -/
theorem plB_row {S : SceneV} {y f t x : Nat} (hf : S.1 y = nI f) (ht : S.2.1 y = nI t) (hf16 : f < 16) (ht16 : t < 16) (hx : x < 16) : plB S x y = true ↔ f ≤ x ∧ x ≤ t := by
  unfold plB
  rw [decide_eq_true_iff, hf, ht, n_le (by omega) (by omega), n_le (by omega) (by omega)]
theorem plB_no {S : SceneV} {y f t x : Nat} (hf : S.1 y = nI f) (ht : S.2.1 y = nI t) (hf16 : f < 16) (ht16 : t < 16) (hx : x < 16) (h : ¬ (f ≤ x ∧ x ≤ t)) : plB S x y = false := by
  cases q : plB S x y with
  | false => rfl
  | true => exact absurd ((plB_row hf ht hf16 ht16 hx).mp q) h
/-- row y's distances -/
abbrev fR (S : SceneV) (n s y : Nat) : Nat → Nat := fun i => fN S n s (y * 16 + i)
abbrev SeaW : Type := CellV × (Nat → Int32) × (Nat → Int32) × (Nat → Int32) × (Nat → Int32)
theorem X2_readRow {S : SceneV} {n s y : Nat} {Z : SearchV} (hI : SI S n) (hy : y < 16) (hO : ∀ p, p < 256 → Z.2.2.2.1.2.1 p = ownP S n s p) (hL : ∀ p, p < 256 → Z.2.2.2.2.1 p = lefP S n s p) : ∃ fa rm rf : Nat → Int32, f_X2_readRow Z S (nI y) = some (Z.1, Z.2.1, Z.2.2.1, Z.2.2.2.1, Z.2.2.2.2.1, fa, rm, rf) ∧ (∀ x, x < 16 → plB S x y = true → fa (y * 16 + x) = nI (fN S n s (y * 16 + x))) ∧ (∀ p, p / 16 ≠ y → fa p = Z.2.2.2.2.2.1 p) ∧ (∀ x, x < 16 → plB S x y = true → lefP S n s (y * 16 + x) ≤ rm y) ∧ (∀ j, j ≠ y → rm j = Z.2.2.2.2.2.2.1 j) ∧ rf y = nI (sN (fR S n s y) 16) ∧ ∀ j, j ≠ y → rf j = Z.2.2.2.2.2.2.2 j := by
  have h8 := hI.1
  obtain ⟨f, t, hf16, ht16, hf, ht⟩ := SI_row hI hy
  obtain ⟨N, hN⟩ : ∃ N, N = max f (t + 1) := ⟨_, rfl⟩
  have z0 : ∀ i, i < f → fR S n s y i = 0 := fun i hi => by
    obtain ⟨p1, p2⟩ := p_xy (x := i) (y := y) (by omega)
    exact fN_0 (by rw [p1, p2]; exact plB_no hf ht hf16 ht16 (by omega) (by omega))
  have z1 : ∀ i, N ≤ i → i < 16 → fR S n s y i = 0 := fun i hi hi2 => by
    obtain ⟨p1, p2⟩ := p_xy (x := i) (y := y) (by omega)
    exact fN_0 (by rw [p1, p2]; exact plB_no hf ht hf16 ht16 (by omega) (by omega))
  have h := lp_inv (body := f_X2_readRow_L22 S (nI y)) (fun i (z : (Nat → Int32) × (Nat → Int32) × (Nat → Int32)) => (nI i, ((Z.1, Z.2.1, Z.2.2.1, Z.2.2.2.1, Z.2.2.2.2.1, z.1, z.2.1, z.2.2) : SearchV))) N (fun i z => f ≤ i ∧ (∀ x, x < i → plB S x y = true → z.1 (y * 16 + x) = nI (fN S n s (y * 16 + x))) ∧ (∀ p, p / 16 ≠ y → z.1 p = Z.2.2.2.2.2.1 p) ∧ (∀ x, x < i → plB S x y = true → lefP S n s (y * 16 + x) ≤ z.2.1 y) ∧ (∀ j, j ≠ y → z.2.1 j = Z.2.2.2.2.2.2.1 j) ∧ z.2.2 y = nI (sN (fR S n s y) i) ∧ ∀ j, j ≠ y → z.2.2 j = Z.2.2.2.2.2.2.2 j) (fun z => ((Z.1, Z.2.1, Z.2.2.1, Z.2.2.2.1, Z.2.2.2.2.1, z.1, z.2.1, z.2.2) : SearchV)) (fun i z hi hz => by
    obtain ⟨a0, a1, a2, a3, a4, a5, a6⟩ := hz
    have hi16 : i < 16 := by omega
    have hp : y * 16 + i < 256 := by omega
    obtain ⟨p1, p2⟩ := p_xy (y := y) hi16
    have hpl : plB S ((y * 16 + i) % 16) ((y * 16 + i) / 16) = true := by rw [p1, p2]; exact (plB_row hf ht hf16 ht16 hi16).mpr (by omega)
    refine ⟨(upd z.1 (y * 16 + i) (nI (fN S n s (y * 16 + i))), upd z.2.1 y (if z.2.1 y < lefP S n s (y * 16 + i) then lefP S n s (y * 16 + i) else z.2.1 y), upd z.2.2 y (z.2.2 y + nI (fN S n s (y * 16 + i)))), ?_, by omega, fun x hx hpx => ?_, fun p hp2 => ?_, fun x hx hpx => ?_, fun j hj => ?_, ?_, fun j hj => ?_⟩
    · unfold f_X2_readRow_L22
      have c : ¬ S.2.1 y < nI i := by rw [ht, n_lt (by omega) (by omega)]; omega
      have ex : (if ownP S n s (y * 16 + i) = -1 then some 0 else gd (ix (nI (y * 16 + i)) 256) (gd (ix (ownP S n s (y * 16 + i)) 8) (some (lefP S n s (y * 16 + i) + S.2.2.2.2.2.1 (ownP S n s (y * 16 + i)).toNatClampNeg))) : Option Int32) = some (nI (fN S n s (y * 16 + i))) := by
        rw [fN_P hI hp hpl]
        unfold fP
        rcases own_or (s := s) hI hp with h1 | ⟨g, h1, -, h3, -⟩
        · rw [if_pos h1, if_pos h1]
        · have hm : ¬ ownP S n s (y * 16 + i) = -1 := by rw [h3]; exact n_m1 (by omega)
          rw [if_neg hm, if_neg hm, gd_t (ix_n hp (by omega)), gd_t (show ix (ownP S n s (y * 16 + i)) 8 = true by rw [h3]; exact ix_n (by omega) (by omega))]
      simp only [gd_t (ix_n hy (by omega : (16 : Nat) ≤ 65536)), cl_n (show y < 65536 by omega), if_neg c, ix_p hi16 hy, gd_t (ix_n hp (by omega : (256 : Nat) ≤ 65536)), cl_n (show y * 16 + i < 65536 by omega), hO _ hp, hL _ hp]
      have ex2 := ex
      simp only [gd_t (ix_n hp (by omega : (256 : Nat) ≤ 65536))] at ex2
      rw [ex2]
      simp only [bd_some, pk_us, nI_1]
    · by_cases q : x = i
      · subst q; exact pk_us
      · exact (pk_un (show ¬ y * 16 + x = y * 16 + i by omega)).trans (a1 x (by omega) hpx)
    · exact (pk_un (show ¬ p = y * 16 + i by omega)).trans (a2 p hp2)
    · show lefP S n s (y * 16 + x) ≤ upd z.2.1 y _ y
      rw [pk_us]
      by_cases q : x = i
      · subst q
        split
        · rw [i_le]; omega
        · rename_i q2
          rw [i_lt] at q2
          rw [i_le]; omega
      · have := a3 x (by omega) hpx
        split
        · rename_i q2
          rw [i_lt] at q2
          rw [i_le] at this ⊢
          omega
        · exact this
    · exact (pk_un hj).trans (a4 j hj)
    · show upd z.2.2 y _ y = _
      rw [pk_us, a5, nI_add]
      rfl
    · exact (pk_un hj).trans (a6 j hj)) (fun z hz => by
    unfold f_X2_readRow_L22
    have c : S.2.1 y < nI N := by rw [ht, n_lt (by omega) (by omega)]; omega
    simp only [gd_t (ix_n hy (by omega : (16 : Nat) ≤ 65536)), cl_n (show y < 65536 by omega), if_pos c]) fu f (Z.2.2.2.2.2.1, upd Z.2.2.2.2.2.2.1 y (-1000000000), upd Z.2.2.2.2.2.2.2 y 0) (by omega) (fu_lt (by omega)) ⟨by omega, fun x hx hpx => absurd ((plB_row hf ht hf16 ht16 (by omega)).mp hpx) (by omega), fun _ _ => rfl, fun x hx hpx => absurd ((plB_row hf ht hf16 ht16 (by omega)).mp hpx) (by omega), fun j hj => pk_un hj, by
      show upd _ _ _ _ = _
      rw [pk_us, sN_const (a := 0) (b := f) (by omega) (fun i _ hi => z0 i hi)]
      rfl, fun j hj => pk_un hj⟩
  obtain ⟨z, e, b0, b1, b2, b3, b4, b5, b6⟩ := h
  have hin : ∀ x, x < 16 → plB S x y = true → x < N := fun x hx hpx => by
    have := (plB_row hf ht hf16 ht16 hx).mp hpx
    omega
  refine ⟨z.1, z.2.1, z.2.2, ?_, fun x hx hpx => b1 x (hin x hx hpx) hpx, b2, fun x hx hpx => b3 x (hin x hx hpx) hpx, b4, ?_, b6⟩
  · unfold f_X2_readRow
    rw [gd_t (ix_n hy (by omega)), gd_t (ix_n hy (by omega)), gd_t (ix_n hy (by omega)), cl_n (show y < 65536 by omega), hf]
    rw [show lp (f_X2_readRow_L22 S (nI y)) fu (nI f, (Z.1, Z.2.1, Z.2.2.1, Z.2.2.2.1, Z.2.2.2.2.1, Z.2.2.2.2.2.1, upd Z.2.2.2.2.2.2.1 y (-1000000000), upd Z.2.2.2.2.2.2.2 y 0)) = _ from e]
    rfl
  · rw [b5, sN_const (a := N) (b := 16) (by omega) z1]
/-- what the search has read of all rows -/
def ZR (S : SceneV) (n s : Nat) (W : SeaW) : Prop := (∀ p, p < 256 → W.2.1 p = lefP S n s p) ∧ (∀ p, p < 256 → plB S (p % 16) (p / 16) = true → W.2.2.1 p = nI (fN S n s p)) ∧ (∀ y x, y < 16 → x < 16 → plB S x y = true → lefP S n s (y * 16 + x) ≤ W.2.2.2.1 y) ∧ ∀ y, y < 16 → W.2.2.2.2 y = nI (sN (fR S n s y) 16)
theorem X2_rows {S : SceneV} {n s : Nat} (hI : SI S n) (Z : SearchV) (hO : ∀ p, p < 256 → Z.2.2.2.1.2.1 p = ownP S n s p) (hL : ∀ p, p < 256 → Z.2.2.2.2.1 p = lefP S n s p) : ∃ Z', lp (f_X2_run_L15 S) fu (0, Z) = some Z' ∧ ZR S n s Z'.2.2.2 := by
  have h := lp_inv (body := f_X2_run_L15 S) (fun i (z : SearchV) => (nI i, z)) 16 (fun i z => (∀ p, p < 256 → z.2.2.2.1.2.1 p = ownP S n s p) ∧ (∀ p, p < 256 → z.2.2.2.2.1 p = lefP S n s p) ∧ (∀ p, p < i * 16 → plB S (p % 16) (p / 16) = true → z.2.2.2.2.2.1 p = nI (fN S n s p)) ∧ (∀ y x, y < i → x < 16 → plB S x y = true → lefP S n s (y * 16 + x) ≤ z.2.2.2.2.2.2.1 y) ∧ ∀ y, y < i → z.2.2.2.2.2.2.2 y = nI (sN (fR S n s y) 16)) id (fun i z hi hz => by
    obtain ⟨a1, a2, a3, a4, a5⟩ := hz
    obtain ⟨fa, rm, rf, e, b1, b2, b3, b4, b5, b6⟩ := X2_readRow hI hi a1 a2
    refine ⟨(z.1, z.2.1, z.2.2.1, z.2.2.2.1, z.2.2.2.2.1, fa, rm, rf), ?_, a1, a2, fun p hp hpl => ?_, fun y x hy hx hpl => ?_, fun y hy => ?_⟩
    · unfold f_X2_run_L15
      have c : ¬ (16 : Int32) ≤ nI i := lit_le (N := 16) (by omega) hi
      simp only [if_neg c, e, bd_some, nI_1]
    · by_cases q : p / 16 = i
      · have e2 : p = i * 16 + p % 16 := by omega
        have := b1 (p % 16) (by omega) (by rw [← q]; exact hpl)
        rw [← e2] at this
        exact this
      · show fa p = _
        rw [b2 p q]
        exact a3 p (by omega) hpl
    · show _ ≤ rm y
      by_cases q : y = i
      · subst q; exact b3 x hx hpl
      · rw [b4 y q]; exact a4 y x (by omega) hx hpl
    · show rf y = _
      by_cases q : y = i
      · subst q; exact b5
      · rw [b6 y q]; exact a5 y (by omega)) (fun z _ => by
    unfold f_X2_run_L15
    have c : (16 : Int32) ≤ nI 16 := by decide
    simp only [if_pos c]; rfl) fu 0 Z (by omega) (fu_lt (by omega)) ⟨hO, hL, fun p hp => absurd hp (by omega), fun y x hy => absurd hy (by omega), fun y hy => absurd hy (by omega)⟩
  obtain ⟨z, e, -, b2, b3, b4, b5⟩ := h
  exact ⟨z, e, b2, fun p hp => b3 p (by omega), fun y x hy => b4 y x hy, fun y hy => b5 y hy⟩
