/-! ===== PURE HALF. owner, cell, border, neighbours ===== -/
theorem hasPlot_n {S : SceneV} {x y : Nat} (hy : y < 16) : f_X1_hasPlot S (nI x) (nI y) = some (plB S x y) := by
  rw [X1_hasPlot S (nI x) hy]
  unfold plB
  congr 1
  apply decide_eq_decide.mpr
  rw [i_lt, i_lt, i_le, i_le]
  omega
theorem wk_bit {S : SceneV} {n d i : Nat} (hI : SI S n) (hi : i < 8) : (wkN S d n).testBit i = true ↔ i < n ∧ ob (sOut S i) d = false ∧ sRd S (i * 64 + d) ≠ -6 := by
  rw [wkN_bit S d hi n hI.1, decide_eq_true_iff]
theorem wk_some {S : SceneV} {n d : Nat} (hI : SI S n) (h : wkN S d n ≠ 0) : ∃ i, i < n ∧ (wkN S d n).testBit i = true := by
  have h2 := fun q => h ((b_zero _ (wk_lt hI d)).mpr q)
  have h3 : ∃ i, i < 8 ∧ (wkN S d n).testBit i = true := Classical.byContradiction fun q => h2 (fun i hi => by
    cases hb : (wkN S d n).testBit i with
    | false => rfl
    | true => exact absurd ⟨i, hi, hb⟩ q)
  obtain ⟨i, hi, hb⟩ := h3
  exact ⟨i, ((wk_bit hI hi).mp hb).1, hb⟩
theorem own_ne {S : SceneV} {n s p i : Nat} (hI : SI S n) (hp : p < 256) (hq : plB S (p % 16) (p / 16) = true) (hi : i < n) (hb : s.testBit i = true) : ∃ g, g < n ∧ ownP S n s p = nI g := by
  rcases ow_some (s := s) hI (Nat.le_refl n) (show p % 16 < 16 by omega) (show p / 16 < 16 by omega) with ⟨-, h2⟩ | ⟨g, h1, h2, h3⟩
  · rw [h2 i hi] at hb; exact absurd hb (by decide)
  · exact ⟨g, h1, by simp only [ownP, if_pos hq, h3]⟩
theorem sm_owner {R : RcV} {M : ModelV} (h : Rel R M) (d x y : Int32) : Sm (f_X4_owner R d x y) (f_X5_owner M d x y) := by
  have hR := h
  obtain ⟨n, hL⟩ := h
  have hL2 := hL
  obtain ⟨hI, hM, hS, hG⟩ := hL2
  have h8 := hI.1
  unfold f_X4_owner f_X5_owner
  simp only [X4_isDay, X5_isDay, X4_isPlot, in_15, bd_some, b2i_0, decide_eq_false_iff_not]
  by_cases hd : okP 64 d
  · rw [if_neg (not_not_intro hd), if_neg (not_not_intro hd)]
    obtain ⟨e, he, rfl⟩ := okP_n hd (by omega)
    by_cases hx : okP 16 x
    · by_cases hy : okP 16 y
      · rw [if_neg (not_not_intro (And.intro hx hy)), if_neg (not_not_intro hx), if_neg (not_not_intro hy)]
        obtain ⟨i, hi, rfl⟩ := okP_n hx (by omega)
        obtain ⟨j, hj, rfl⟩ := okP_n hy (by omega)
        rw [hasPlot_n hj, X5_isPlot hM hi hj, bd_some, bd_some]
        cases hp : plB R.1 i j with
        | false =>
          rw [if_pos rfl, if_pos rfl]
          exact Sm_same hR _
        | true =>
          rw [if_neg (show ¬ true = false by decide), if_neg (show ¬ true = false by decide), wk1 hI he, wk5 hI hM he, bd_some, bd_some]
          have hw := wk_lt hI e
          obtain ⟨p1, p2⟩ := p_xy (y := j) hi
          by_cases h0 : wkN R.1 e n = 0
          · rw [if_pos ((n_0 (by omega)).mpr h0), h0]
            obtain ⟨c, c1, c2, c3, -⟩ := hS
            rw [show nI 0 = 0 from rfl, X5_look_0 c1 c3, bd_some, show (0 : Int32) = nI 0 from rfl, X5_ownerOf' hI hM (by omega) hi hj hp, bd_some, ownP_0, m6_1]
            exact Sm_same hR _
          · rw [if_neg (fun q => h0 ((n_0 (by omega)).mp q))]
            obtain ⟨a, T', M', e1, e2, e3, e4, e5, e6, e7, e8, e9, e10⟩ := look hI (Nat.pos_of_ne_zero h0) hw hS
            obtain ⟨b, b1, b2⟩ := wk_some hI h0
            obtain ⟨g, g1, g2⟩ := own_ne (p := j * 16 + i) hI (by omega) (by rw [p1, p2]; exact hp) b1 b2
            rw [e1, e2, bd_some, bd_some, gd_t (decide_eq_true e6), X0_ownerAt e4.2.1, bd_some, oA_n hi hj, X5_ownerOf' hI (MS_rel e10 hM) hw hi hj hp, bd_some, g2, m6_n (by omega)]
            exact ⟨_, _, _, rfl, rfl, n, RlN_look hL e3 e10⟩
      · rw [if_pos (show ¬ (okP 16 x ∧ okP 16 y) from fun q => hy q.2), if_neg (not_not_intro hx), if_pos hy]
        exact Sm_same hR _
    · rw [if_pos (show ¬ (okP 16 x ∧ okP 16 y) from fun q => hx q.1), if_pos hx]
      exact Sm_same hR _
  · rw [if_pos hd, if_pos hd]
    exact Sm_same hR _
/-- how many plots there are, as a number -/
theorem pcn_N {S : SceneV} {n : Nat} (hI : SI S n) : ∀ y, y ≤ 16 → ∃ P, P ≤ 16 * y ∧ pcn S.1 S.2.1 y = nI P
  | 0, _ => ⟨0, by omega, rfl⟩
  | y + 1, h => by
    obtain ⟨P, h1, h2⟩ := pcn_N hI y (by omega)
    obtain ⟨f, t, hf, ht, e1, e2⟩ := SI_row hI (show y < 16 by omega)
    rw [pcn, h2, e1, e2]
    by_cases q : t < f
    · rw [if_pos ((n_lt (by omega) (by omega)).mpr q)]
      exact ⟨P, by omega, Int32.add_zero _⟩
    · rw [if_neg (fun z => q ((n_lt (by omega) (by omega)).mp z))]
      refine ⟨P + (t - f + 1), by omega, ?_⟩
      have e : nI t - nI f = nI (t - f) := by
        have : nI t = nI (t - f) + nI f := by rw [nI_add]; congr 1; omega
        rw [this, Int32.add_sub_cancel]
      rw [e, nI_1, nI_add]
theorem part0 (P : Nat) : fUp 0 P = 0 ∧ fLo 0 P = 1 := by
  unfold fUp fLo
  rw [Nat.gcd_zero_left, Nat.zero_div]
  refine ⟨rfl, ?_⟩
  by_cases h : P = 0
  · rw [if_pos h]
  · rw [if_neg h, Nat.div_self (by omega)]
theorem gcd_ne {a b : Nat} (h : a ≠ 0) : Nat.gcd a b ≠ 0 := fun q => h (Nat.eq_zero_of_gcd_eq_zero_left q)
theorem gcd_ne2 {a b : Nat} (h : b ≠ 0) : Nat.gcd a b ≠ 0 := fun q => h (Nat.eq_zero_of_gcd_eq_zero_right q)
theorem ok_lt (x : Int32) {N : Nat} {c : Int32} (hc : c.toInt = N) : okP (N + 1) x ↔ ¬ x < 0 ∧ x ≤ c := by
  rw [i_lt, i_le, t0, hc]
  show 0 ≤ x.toInt ∧ x.toInt < ((N + 1 : Nat) : Int) ↔ _
  omega
theorem sm_cell {R : RcV} {M : ModelV} (h : Rel R M) (d g w : Int32) : Sm (f_X4_cell R d g w) (f_X5_cell M d g w) := by
  have hR := h
  obtain ⟨n, hL⟩ := h
  have hL2 := hL
  obtain ⟨hI, hM, hS, hG⟩ := hL2
  have h8 := hI.1
  unfold f_X4_cell f_X5_cell
  simp only [X1_knows hI.2.1 h8, X5_isGauge hM.2.1 h8, X4_isDay, X5_isDay, in_3, bd_some, b2i_0, decide_eq_false_iff_not]
  by_cases hk : okP n g
  · rw [if_neg (not_not_intro hk), if_neg (not_not_intro hk)]
    obtain ⟨k, hkn, rfl⟩ := okP_n hk (by omega)
    have hk8 : k < 8 := by omega
    by_cases hd : okP 64 d
    · rw [if_neg (not_not_intro hd), if_neg (not_not_intro hd)]
      obtain ⟨e, he, rfl⟩ := okP_n hd (by omega)
      by_cases hw : okP 4 w
      · have hw2 := (ok_lt (N := 3) (c := 3) w (by decide)).mp hw
        rw [if_neg hw2.1, if_pos hw2.2, if_neg (not_not_intro hw)]
        obtain ⟨v, hv, rfl⟩ := okP_n hw (by omega)
        obtain ⟨a, T', M', e1, e2, e3, e4, e5, e6⟩ := cellsOn hL he
        have hlt := wk_lt hI e
        have hM' := MS_rel e3 hM
        obtain ⟨P, P1, P2⟩ := pcn_N hI 16 (by omega)
        have P3 : pcn M'.1 M'.2.1 16 = nI P := by rw [← P2]; exact pcn_eq (fun i hi => hM'.1 i hi)
        have hc := cN_le (ownP R.1 n (wkN R.1 e n)) k 256
        rw [e1, wk5 hI hM he, bd_some, bd_some, e2, bd_some, X5_size hI hM' hlt hk8, bd_some]
        simp only [gd_t (decide_eq_true e6), gd_t (ix_n hk8 (by omega : (8 : Nat) ≤ 65536)), cl_n (show k < 65536 by omega), X1_plotCount, X5_plots, bd_some, P2, P3, e5.2.2.1 k hk8, e5.2.2.2 k hk8, X5_farOf hI hM' hlt hkn, cntP_N, X4_upper (show cN (ownP R.1 n (wkN R.1 e n)) k 256 < 2 ^ 31 by omega) (show P < 2 ^ 31 by omega), X4_lower (show cN (ownP R.1 n (wkN R.1 e n)) k 256 < 2 ^ 31 by omega) (show P < 2 ^ 31 by omega)]
        have fin : ∀ r : Int32, Sm (some (r, rcT R T')) (some (r, M')) := fun r => ⟨r, _, _, rfl, rfl, n, e4⟩
        have hz : (nI (cN (ownP R.1 n (wkN R.1 e n)) k 256) = 0) ↔ cN (ownP R.1 n (wkN R.1 e n)) k 256 = 0 := n_0 (by omega)
        rcases (show v = 0 ∨ v = 1 ∨ v = 2 ∨ v = 3 by omega) with rfl | rfl | rfl | rfl
        · rw [if_pos (show nI 0 = 0 from rfl), if_pos (show nI 0 = 0 from rfl)]
          exact fin _
        · rw [if_neg (show ¬ nI 1 = 0 by decide), if_pos (show nI 1 = 1 from rfl), if_neg (show ¬ nI 1 = 0 by decide), if_neg (show ¬ nI 1 = 3 by decide)]
          by_cases q : cN (ownP R.1 n (wkN R.1 e n)) k 256 = 0
          · rw [if_pos (hz.mpr q), q, (part0 P).1]
            exact fin _
          · rw [if_neg (fun z => q (hz.mp z)), show nI 1 - 1 = nI 0 from rfl, X5_part (by omega) (by omega) (by omega) (gcd_ne q), bd_some, if_pos rfl]
            exact fin _
        · rw [if_neg (show ¬ nI 2 = 0 by decide), if_neg (show ¬ nI 2 = 1 by decide), if_pos (show nI 2 = 2 from rfl), if_neg (show ¬ nI 2 = 0 by decide), if_neg (show ¬ nI 2 = 3 by decide)]
          by_cases q : cN (ownP R.1 n (wkN R.1 e n)) k 256 = 0
          · rw [if_pos (hz.mpr q), q, (part0 P).2]
            exact fin _
          · rw [if_neg (fun z => q (hz.mp z)), show nI 2 - 1 = nI 1 from rfl, X5_part (by omega) (by omega) (by omega) (gcd_ne q), bd_some, if_neg (show ¬ (1 : Nat) = 0 by decide)]
            exact fin _
        · rw [if_neg (show ¬ nI 3 = 0 by decide), if_neg (show ¬ nI 3 = 1 by decide), if_neg (show ¬ nI 3 = 2 by decide), if_neg (show ¬ nI 3 = 0 by decide), if_pos (show nI 3 = 3 from rfl)]
          exact fin _
      · rw [if_pos hw]
        have hw2 := fun q => hw ((ok_lt (N := 3) (c := 3) w (by decide)).mpr q)
        by_cases h5 : w < 0
        · rw [if_pos h5]
          exact Sm_same hR _
        · rw [if_neg h5, if_neg (show ¬ w ≤ 3 from fun q => hw2 ⟨h5, q⟩)]
          exact Sm_same hR _
    · rw [if_pos hd, if_pos hd]
      exact Sm_same hR _
  · rw [if_pos hk, if_pos hk]
    exact Sm_same hR _
theorem sm_border {R : RcV} {M : ModelV} (h : Rel R M) (d g j : Int32) : Sm (f_X4_border R d g j) (f_X5_border M d g j) := by
  have hR := h
  obtain ⟨n, hL⟩ := h
  have hL2 := hL
  obtain ⟨hI, hM, hS, hG⟩ := hL2
  have h8 := hI.1
  unfold f_X4_border f_X5_border
  simp only [X1_knows hI.2.1 h8, X5_isGauge hM.2.1 h8, X4_isDay, X5_isDay, bd_some, b2i_0, decide_eq_false_iff_not]
  by_cases hk : okP n g
  · rw [if_neg (not_not_intro hk), if_neg (not_not_intro hk)]
    obtain ⟨k, hkn, rfl⟩ := okP_n hk (by omega)
    have hk8 : k < 8 := by omega
    by_cases hj : okP n j
    · rw [if_neg (not_not_intro hj), if_neg (not_not_intro hj)]
      obtain ⟨i, hin, rfl⟩ := okP_n hj (by omega)
      by_cases hd : okP 64 d
      · rw [if_neg (not_not_intro hd), if_neg (not_not_intro hd)]
        obtain ⟨e, he, rfl⟩ := okP_n hd (by omega)
        obtain ⟨a, T', M', e1, e2, e3, e4, e5, e6⟩ := cellsOn hL he
        have hlt := wk_lt hI e
        have hM' := MS_rel e3 hM
        rw [e1, wk5 hI hM he, bd_some, bd_some, e2, bd_some, bd_ite, bd_ite, gd_t (decide_eq_true e6)]
        have hq : hh (if nI k = nI i then -1 else nI i) (if nI k = nI i then -6 else nI i) := by
          by_cases q : nI k = nI i
          · rw [if_pos q, if_pos q]; exact Or.inl ⟨rfl, rfl⟩
          · rw [if_neg q, if_neg q]; exact Or.inr ⟨i, by omega, rfl, rfl⟩
        rw [X0_sidesTo e5.2.1, X5_sides hI hM' hlt hk8 hq, bd_some, bd_some]
        exact ⟨_, _, _, rfl, rfl, n, e4⟩
      · rw [if_pos hd, if_pos hd]
        exact Sm_same hR _
    · rw [if_pos hj, if_pos hj]
      exact Sm_same hR _
  · rw [if_pos hk, if_pos hk]
    exact Sm_same hR _
theorem sm_neighbours {R : RcV} {M : ModelV} (h : Rel R M) (d g : Int32) : Sm (f_X4_neighbours R d g) (f_X5_neighbours M d g) := by
  have hR := h
  obtain ⟨n, hL⟩ := h
  have hL2 := hL
  obtain ⟨hI, hM, hS, hG⟩ := hL2
  have h8 := hI.1
  unfold f_X4_neighbours f_X5_neighbours
  simp only [X1_knows hI.2.1 h8, X5_isGauge hM.2.1 h8, X4_isDay, X5_isDay, bd_some, b2i_0, decide_eq_false_iff_not]
  by_cases hk : okP n g
  · rw [if_neg (not_not_intro hk), if_neg (not_not_intro hk)]
    obtain ⟨k, hkn, rfl⟩ := okP_n hk (by omega)
    have hk8 : k < 8 := by omega
    by_cases hd : okP 64 d
    · rw [if_neg (not_not_intro hd), if_neg (not_not_intro hd)]
      obtain ⟨e, he, rfl⟩ := okP_n hd (by omega)
      obtain ⟨a, T', M', e1, e2, e3, e4, e5, e6⟩ := cellsOn hL he
      have hlt := wk_lt hI e
      have hM' := MS_rel e3 hM
      rw [e1, wk5 hI hM he, bd_some, bd_some, e2, bd_some, gd_t (decide_eq_true e6), X0_touching hI e5.2.1 hk8, nb_loop hI hM' hlt hkn, bd_some, bd_some]
      exact ⟨_, _, _, rfl, rfl, n, e4⟩
    · rw [if_pos hd, if_pos hd]
      exact Sm_same hR _
  · rw [if_pos hk, if_pos hk]
    exact Sm_same hR _
