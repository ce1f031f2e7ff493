/-! ===== PURE HALF. owners at any place; sides, neighbours, plots in both ===== -/
def oA (S : SceneV) (n s : Nat) (X Y : Int32) : Int32 := if okP 16 X ∧ okP 16 Y then ownP S n s (Y.toNatClampNeg * 16 + X.toNatClampNeg) else -1
theorem oA_n {S : SceneV} {n s x y : Nat} (hx : x < 16) (hy : y < 16) : oA S n s (nI x) (nI y) = ownP S n s (y * 16 + x) := by
  unfold oA
  rw [if_pos ⟨okP_of hx (by omega), okP_of hy (by omega)⟩, cl_n (by omega), cl_n (by omega)]
theorem X0_ownerAt {S : SceneV} {n s : Nat} {V : CellV} (hV : ∀ p, p < 256 → V.2.1 p = ownP S n s p) (X Y : Int32) : f_X0_ownerAt V X Y = some (oA S n s X Y) := by
  unfold f_X0_ownerAt
  rw [X4_isPlot]
  by_cases h : okP 16 X ∧ okP 16 Y
  · obtain ⟨x, hx, rfl⟩ := okP_n h.1 (by omega)
    obtain ⟨y, hy, rfl⟩ := okP_n h.2 (by omega)
    simp only [decide_eq_true h, bd_some, b2i_0, Bool.true_eq_false, reduceIte]
    rw [ix_p hx hy, gd_t (ix_n (show y * 16 + x < 256 by omega) (by omega)), cl_n (by omega), hV _ (by omega), oA_n hx hy]
  · simp only [decide_eq_false h, bd_some, b2i_0, reduceIte, oA, if_neg h]
theorem X5_at {S : SceneV} {n s : Nat} {M : ModelV} (hI : SI S n) (hM : MRel S n M) (hs : s < 256) (X Y : Int32) : f_X5_at M (nI s) X Y = some (m6 (oA S n s X Y)) := by
  unfold f_X5_at
  rw [show (15 : Int32) = nI 15 from rfl, X5_in0 _ 15 (by decide)]
  by_cases hX : okP 16 X
  · obtain ⟨x, hx, rfl⟩ := okP_n hX (by omega)
    simp only [decide_eq_true hX, bd_some, b2i_0, Bool.true_eq_false, reduceIte]
    by_cases hY : okP 16 Y
    · obtain ⟨y, hy, rfl⟩ := okP_n hY (by omega)
      rw [X5_isPlot hM hx hy, oA_n hx hy]
      obtain ⟨e1, e2⟩ := p_xy (y := y) hx
      cases hp : plB S x y with
      | false =>
        rw [ownP_out (k := y * 16 + x) (by rw [e1, e2]; exact hp)]
        simp only [bd_some, reduceIte, m6_1]
      | true =>
        rw [X5_ownerOf' hI hM hs hx hy hp]
        simp only [bd_some, Bool.true_eq_false, reduceIte]
    · have e : f_X5_isPlot M (nI x) Y = some false := by
        unfold f_X5_isPlot
        rw [show (15 : Int32) = nI 15 from rfl, X5_in0 _ 15 (by decide)]
        simp only [decide_eq_false hY, bd_some, b2i_0, reduceIte]
      have e2 : oA S n s (nI x) Y = -1 := by unfold oA; rw [if_neg (fun q => hY q.2)]
      rw [e, e2]
      simp only [bd_some, reduceIte, m6_1]
  · have e2 : oA S n s X Y = -1 := by unfold oA; rw [if_neg (fun q => hX q.1)]
    simp only [decide_eq_false hX, bd_some, b2i_0, reduceIte, e2, m6_1]
/-- partial sums -/
def sK (t : Nat → Int32) : Nat → Int32
  | 0 => 0
  | k + 1 => sK t k + t k
/-- one where h is -/
def e1 (S : SceneV) (n s : Nat) (h X Y : Int32) : Int32 := if oA S n s X Y = h then 1 else 0
/-- at how many sides of plot x, y (if it is g's) h is -/
def tm (S : SceneV) (n s : Nat) (g h X Y : Int32) : Int32 := if oA S n s X Y = g then e1 S n s h (X - 1) Y + e1 S n s h (X + 1) Y + e1 S n s h X (Y - 1) + e1 S n s h X (Y + 1) else 0
def tK (S : SceneV) (n s : Nat) (g h : Int32) (k : Nat) : Int32 := tm S n s g h (nI (k % 16)) (nI (k / 16))
theorem sides_in {S : SceneV} {n s y : Nat} {V : CellV} (hV : ∀ p, p < 256 → V.2.1 p = ownP S n s p) (g h : Int32) (hy : y < 16) : lp (f_X0_sidesTo_L15 V g h (nI y)) fu (sK (tK S n s g h) (y * 16), 0) = some (sK (tK S n s g h) ((y + 1) * 16)) := by
  have q := lp_F (body := f_X0_sidesTo_L15 V g h (nI y)) (fun i z => (z, nI i)) 16 (fun i => sK (tK S n s g h) (y * 16 + i)) id (fun i hi => by
    obtain ⟨ex, ey⟩ := p_xy (y := y) hi
    unfold f_X0_sidesTo_L15
    have c : ¬ (16 : Int32) ≤ nI i := by rw [show (16 : Int32) = nI 16 from rfl, n_le (by omega) (by omega)]; omega
    simp only [if_neg c, X0_ownerAt hV, bd_some, bd_ite, nI_1]
    have e : sK (tK S n s g h) (y * 16 + (i + 1)) = sK (tK S n s g h) (y * 16 + i) + tm S n s g h (nI i) (nI y) := by
      rw [← Nat.add_assoc, sK, tK, ex, ey]
    rw [e]
    by_cases ho : oA S n s (nI i) (nI y) = g
    · simp only [if_pos ho, bd_some, tm, e1, nI_1, Int32.add_assoc]
    · simp only [if_neg ho, bd_some, tm, Int32.add_zero]) (by
    unfold f_X0_sidesTo_L15
    have c : (16 : Int32) ≤ nI 16 := by decide
    simp only [if_pos c]; rfl) fu 0 (by omega) (fu_lt (by omega))
  rw [show (y + 1) * 16 = y * 16 + 16 by omega]
  exact q
theorem X0_sidesTo {S : SceneV} {n s : Nat} {V : CellV} (hV : ∀ p, p < 256 → V.2.1 p = ownP S n s p) (g h : Int32) : f_X0_sidesTo V g h = some (sK (tK S n s g h) 256) := by
  have q := lp_F (body := f_X0_sidesTo_L5 V g h) (fun i z => (z, nI i)) 16 (fun i => sK (tK S n s g h) (i * 16)) id (fun i hi => by
    unfold f_X0_sidesTo_L5
    have c : ¬ (16 : Int32) ≤ nI i := by rw [show (16 : Int32) = nI 16 from rfl, n_le (by omega) (by omega)]; omega
    simp only [if_neg c, sides_in hV g h hi, bd_some, nI_1]) (by
    unfold f_X0_sidesTo_L5
    have c : (16 : Int32) ≤ nI 16 := by decide
    simp only [if_pos c]; rfl) fu 0 (by omega) (fu_lt (by omega))
  unfold f_X0_sidesTo
  rw [show lp (f_X0_sidesTo_L5 V g h) fu (0, 0) = _ from q]
  rfl
theorem oA_or {S : SceneV} {n s : Nat} (hI : SI S n) (X Y : Int32) : oA S n s X Y = -1 ∨ ∃ g, g < n ∧ s.testBit g = true ∧ oA S n s X Y = nI g := by
  unfold oA
  split
  · rename_i h
    obtain ⟨x, hx, rfl⟩ := okP_n h.1 (by omega)
    obtain ⟨y, hy, rfl⟩ := okP_n h.2 (by omega)
    rw [cl_n (by omega), cl_n (by omega)]
    rcases own_or (s := s) hI (show y * 16 + x < 256 by omega) with h1 | ⟨g, h1, h2, h3, -⟩
    · exact Or.inl h1
    · exact Or.inr ⟨g, h1, h2, h3⟩
  · exact Or.inl rfl
/-- what the class and the reference are asked for is the same: a gauge, or none -/
def hh (hc hm : Int32) : Prop := (hc = -1 ∧ hm = -6) ∨ ∃ j, j < 8 ∧ hc = nI j ∧ hm = nI j
theorem m6_hh {c hc hm : Int32} (hcc : c = -1 ∨ ∃ g, g < 8 ∧ c = nI g) (h : hh hc hm) : (m6 c = hm) ↔ c = hc := by
  rcases h with ⟨rfl, rfl⟩ | ⟨j, hj, rfl, rfl⟩
  · rcases hcc with rfl | ⟨g, hg, rfl⟩
    · simp [m6_1]
    · rw [m6_n (by omega)]
      constructor
      · intro q
        rw [i_eq, nI_toInt (by omega)] at q
        have : (-6 : Int32).toInt = -6 := by decide
        omega
      · intro q; exact absurd q (n_m1 (by omega))
  · exact m6_eq (by omega)
theorem X5_sides {S : SceneV} {n s g : Nat} {M : ModelV} {hc hm : Int32} (hI : SI S n) (hM : MRel S n M) (hs : s < 256) (hg : g < 8) (hq : hh hc hm) : f_X5_sides M (nI s) (nI g) hm = some (sK (tK S n s (nI g) hc) 256) := by
  have h8 := hI.1
  have hor : ∀ X Y, oA S n s X Y = -1 ∨ ∃ g, g < 8 ∧ oA S n s X Y = nI g := fun X Y => by
    rcases oA_or (s := s) hI X Y with h | ⟨g, h1, -, h3⟩
    · exact Or.inl h
    · exact Or.inr ⟨g, by omega, h3⟩
  have h := lp_F (body := f_X5_sides_L6 M (nI s) (nI g) hm) (fun i z => (z, nI i)) 256 (sK (tK S n s (nI g) hc)) id (fun k hk => by
    obtain ⟨e1', e2'⟩ := k_xy hk
    unfold f_X5_sides_L6
    have c : ¬ (256 : Int32) ≤ nI k := by rw [show (256 : Int32) = nI 256 from rfl, n_le (by omega) (by omega)]; omega
    simp only [if_neg c]
    rw [e2', e1']
    unfold f_X5_touching
    simp only [X5_at hI hM hs, bd_some, bd_ite, m6_eq (show g < 65536 by omega), m6_hh (hor _ _) hq, nI_1, sK, tK]
    by_cases ho : oA S n s (nI (k % 16)) (nI (k / 16)) = nI g
    · simp only [if_pos ho, bd_some, tm, e1]
      simp only [nI_1]
    · simp only [if_neg ho, bd_some, tm]) (by
    unfold f_X5_sides_L6
    have c : (256 : Int32) ≤ nI 256 := by decide
    simp only [if_pos c]; rfl) fu 0 (by omega) (fu_lt (by omega))
  unfold f_X5_sides
  rw [show lp (f_X5_sides_L6 M (nI s) (nI g) hm) fu (0, 0) = _ from h]
  rfl
