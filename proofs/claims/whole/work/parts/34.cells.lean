/-! ===== PURE HALF. the class's Cells by a set: claim, workOut ===== -/
def plB (S : SceneV) (x y : Nat) : Bool := decide (S.1 y ≤ nI x ∧ nI x ≤ S.2.1 y)
/-- plots that were claimed, out of O and L, by gauge g, where 'dn' says so -/
def clO (S : SceneV) (g : Nat) (O L : Nat → Int32) (dn : Nat → Bool) : Nat → Int32 := fun p => if dn p = true ∧ byS S g (p % 16) (p / 16) < L p then nI g else O p
def clL (S : SceneV) (g : Nat) (L : Nat → Int32) (dn : Nat → Bool) : Nat → Int32 := fun p => if dn p = true ∧ byS S g (p % 16) (p / 16) < L p then byS S g (p % 16) (p / 16) else L p
theorem cl_at {S : SceneV} {g : Nat} {L : Nat → Int32} {dn : Nat → Bool} {p : Nat} (h : dn p = false) : clL S g L dn p = L p := by simp [clL, h]
theorem cl_no {S : SceneV} {g : Nat} {O L : Nat → Int32} {dn dn' : Nat → Bool} {p0 : Nat} (h0 : dn p0 = false) (h2 : ∀ p, p ≠ p0 → dn' p = dn p) (hb : ¬ byS S g (p0 % 16) (p0 / 16) < L p0) : clO S g O L dn' = clO S g O L dn ∧ clL S g L dn' = clL S g L dn := by
  constructor <;> funext p <;> by_cases hp : p = p0
  · subst hp; simp [clO, hb]
  · simp [clO, h2 p hp]
  · subst hp; simp [clL, hb]
  · simp [clL, h2 p hp]
theorem cl_yes {S : SceneV} {g : Nat} {O L : Nat → Int32} {dn dn' : Nat → Bool} {p0 : Nat} (h1 : dn' p0 = true) (h2 : ∀ p, p ≠ p0 → dn' p = dn p) (hb : byS S g (p0 % 16) (p0 / 16) < L p0) : clO S g O L dn' = upd (clO S g O L dn) p0 (nI g) ∧ clL S g L dn' = upd (clL S g L dn) p0 (byS S g (p0 % 16) (p0 / 16)) := by
  constructor <;> funext p <;> by_cases hp : p = p0
  · subst hp; rw [pk_us]; simp [clO, hb, h1]
  · rw [pk_un hp]; simp [clO, h2 p hp]
  · subst hp; rw [pk_us]; simp [clL, hb, h1]
  · rw [pk_un hp]; simp [clL, h2 p hp]
/-- rows ahead of y -/
def dY (S : SceneV) (y : Nat) (p : Nat) : Bool := decide (p / 16 < y) && plB S (p % 16) (p / 16)
/-- and row y from f up to i -/
def dX (S : SceneV) (y f i : Nat) (p : Nat) : Bool := dY S y p || decide (p / 16 = y ∧ f ≤ p % 16 ∧ p % 16 < i)
theorem dX_0 (S : SceneV) (y f : Nat) : dX S y f f = dY S y := by
  funext p
  have : ¬ (p / 16 = y ∧ f ≤ p % 16 ∧ p % 16 < f) := by omega
  simp only [dX, this, decide_false, Bool.or_false]
theorem dX_N {S : SceneV} {y f t N : Nat} (hf : S.1 y = nI f) (ht : S.2.1 y = nI t) (hf16 : f < 16) (ht16 : t < 16) (hN : N = max f (t + 1)) : dX S y f N = dY S (y + 1) := by
  funext p
  by_cases hy : p / 16 = y
  · have h1 : ¬ p / 16 < y := by omega
    have h2 : p / 16 < y + 1 := by omega
    have hx : p % 16 < 16 := Nat.mod_lt _ (by omega)
    have e : plB S (p % 16) (p / 16) = decide (f ≤ p % 16 ∧ p % 16 < N) := by
      unfold plB
      apply decide_eq_decide.mpr
      rw [hy, hf, ht, n_le (by omega) (by omega), n_le (by omega) (by omega)]
      omega
    simp only [dX, dY, h1, h2, decide_false, decide_true, Bool.false_and, Bool.true_and, Bool.false_or, e]
    simp only [hy, true_and]
  · have h1 : (p / 16 < y + 1) ↔ p / 16 < y := by omega
    simp only [dX, dY, hy, h1, false_and, decide_false, Bool.or_false]
theorem asub (a b c : Int32) : a + (b - c) = a + b - c := by
  rw [Int32.sub_eq_add_neg, Int32.sub_eq_add_neg, Int32.add_assoc]
theorem by_dec {S : SceneV} {g x y : Nat} : (nI x - sPx S g) * (nI x - sPx S g) + ((nI y - sPy S g) * (nI y - sPy S g) - sRe S g) = byS S g x y := by
  rw [asub]; rfl
theorem p_xy {x y : Nat} (hx : x < 16) : (y * 16 + x) % 16 = x ∧ (y * 16 + x) / 16 = y := by omega
theorem ix_p {x y : Nat} (hx : x < 16) (hy : y < 16) : nI y * 16 + nI x = nI (y * 16 + x) := by
  rw [show (16 : Int32) = nI 16 from rfl, pk_mul, nI_add]
theorem X0_claim_in {S : SceneV} {n g y f t : Nat} {V : CellV} {L : Nat → Int32} (hI : SI S n) (hg : g < n) (hy : y < 16) (hf : S.1 y = nI f) (ht : S.2.1 y = nI t) (hf16 : f < 16) (ht16 : t < 16) :
    lp (f_X0_claim_L61 S (nI g) (sPx S g) (nI y) ((nI y - sPy S g) * (nI y - sPy S g) - sRe S g) (nI t)) fu (nI f, (V.1, clO S g V.2.1 L (dY S y), V.2.2.1, V.2.2.2), clL S g L (dY S y)) = some ((V.1, clO S g V.2.1 L (dY S (y + 1)), V.2.2.1, V.2.2.2), clL S g L (dY S (y + 1))) := by
  obtain ⟨N, hN⟩ : ∃ N, N = max f (t + 1) := ⟨_, rfl⟩
  have h := lp_G (body := f_X0_claim_L61 S (nI g) (sPx S g) (nI y) ((nI y - sPy S g) * (nI y - sPy S g) - sRe S g) (nI t)) (fun i (z : CellV × (Nat → Int32)) => (nI i, z.1, z.2)) f N (fun i => ((V.1, clO S g V.2.1 L (dX S y f i), V.2.2.1, V.2.2.2), clL S g L (dX S y f i))) id (fun i hi1 hi2 => by
    have hi : i < 16 := by omega
    have c : ¬ nI t < nI i := by rw [n_lt (by omega) (by omega)]; omega
    obtain ⟨ex, ey⟩ := p_xy (y := y) hi
    have d0 : dX S y f i (y * 16 + i) = false := by
      have h1 : ¬ (y * 16 + i) / 16 < y := by omega
      have h2 : ¬ ((y * 16 + i) / 16 = y ∧ f ≤ (y * 16 + i) % 16 ∧ (y * 16 + i) % 16 < i) := by omega
      simp only [dX, dY, h1, h2, Bool.false_and, decide_false, Bool.or_false]
    have d1 : dX S y f (i + 1) (y * 16 + i) = true := by
      have h2 : (y * 16 + i) / 16 = y ∧ f ≤ (y * 16 + i) % 16 ∧ (y * 16 + i) % 16 < i + 1 := by omega
      simp only [dX, h2, decide_true, Bool.or_true, and_self]
    have d2 : ∀ p, p ≠ y * 16 + i → dX S y f (i + 1) p = dX S y f i p := by
      intro p hp
      have h2 : (p / 16 = y ∧ f ≤ p % 16 ∧ p % 16 < i + 1) ↔ (p / 16 = y ∧ f ≤ p % 16 ∧ p % 16 < i) := by omega
      simp only [dX, h2]
    unfold f_X0_claim_L61
    simp only [if_neg c, ix_p hi hy, gd_t (ix_n (show y * 16 + i < 256 by omega) (by omega : (256 : Nat) ≤ 65536)), cl_n (show y * 16 + i < 65536 by omega), by_dec, cl_at d0, nI_1]
    have eb : byS S g ((y * 16 + i) % 16) ((y * 16 + i) / 16) = byS S g i y := by rw [ex, ey]
    by_cases hb : L (y * 16 + i) ≤ byS S g i y
    · have hb' : ¬ byS S g ((y * 16 + i) % 16) ((y * 16 + i) / 16) < L (y * 16 + i) := by rw [eb, i_lt]; rw [i_le] at hb; omega
      obtain ⟨e1, e2⟩ := cl_no (S := S) (g := g) (O := V.2.1) d0 d2 hb'
      rw [if_pos hb, e1, e2]
      rfl
    · have hb' : byS S g ((y * 16 + i) % 16) ((y * 16 + i) / 16) < L (y * 16 + i) := by rw [eb, i_lt]; rw [i_le] at hb; omega
      obtain ⟨e1, e2⟩ := cl_yes (S := S) (g := g) (O := V.2.1) d1 d2 hb'
      rw [if_neg hb, e1, e2, eb]
      rfl) (by
    unfold f_X0_claim_L61
    have c : nI t < nI N := by rw [n_lt (by omega) (by omega)]; omega
    simp only [if_pos c]; rfl) fu f (by omega) (by omega) (fu_lt (by omega))
  simp only [dX_0, dX_N hf ht hf16 ht16 hN] at h
  exact h
