/-! ===== PURE HALF. mean, total, spread ===== -/
theorem rd_n {x : Int32} (h : rdP x) (h6 : x ≠ -6) : ∃ v, v ≤ 9999 ∧ x = nI v := by
  rcases h with h | h
  · exact absurd h h6
  · obtain ⟨v, hv, e⟩ := okP_n (N := 10000) ((ok_10000 x).mpr h) (by omega)
    exact ⟨v, by omega, e⟩
/-- water of a day, as a number -/
theorem wtr_N {S : SceneV} {n d : Nat} (hI : SI S n) (hd : d < 64) : ∀ m, m ≤ n → ∃ W, W ≤ m * 2559744 ∧ wtr S n (wkN S d n) d m = nI W
  | 0, _ => ⟨0, Nat.zero_le _, rfl⟩
  | m + 1, h => by
    have h8 := hI.1
    obtain ⟨W, h1, h2⟩ := wtr_N hI hd m (by omega)
    rw [wtr, h2]
    by_cases q : (wkN S d n).testBit m = true
    · rw [if_pos q]
      obtain ⟨-, -, b3⟩ := (wk_bit hI (by omega)).mp q
      obtain ⟨v, v1, v2⟩ := rd_n (hI.2.2.2.2.2.1 m d (by omega) hd) b3
      have hc := cN_le (ownP S n (wkN S d n)) m 256
      rw [v2, cntP_N, pk_mul, nI_add]
      have := Nat.mul_le_mul hc v1
      exact ⟨_, by omega, rfl⟩
    · rw [if_neg q]
      exact ⟨W, Nat.le_trans h1 (Nat.mul_le_mul_right _ (Nat.le_succ m)), Int32.add_zero _⟩
theorem hasMean_c {n d : Nat} {R : RcV} (hI : SI R.1 n) (hd : d < 64) : f_X4_hasMean R (nI d) = some (decide (¬ wkN R.1 d n = 0 ∧ ¬ pcn R.1.1 R.1.2.1 16 ≤ 0)) := by
  have hlt := wk_lt hI d
  unfold f_X4_hasMean
  rw [wk1 hI hd, bd_some, X1_plotCount, bd_some]
  by_cases q : wkN R.1 d n = 0
  · rw [if_pos ((n_0 (by omega)).mpr q), decide_eq_false (fun z => z.1 q)]
  · rw [if_neg (fun z => q ((n_0 (by omega)).mp z))]
    by_cases q2 : pcn R.1.1 R.1.2.1 16 ≤ 0
    · rw [if_pos q2, decide_eq_false (fun z => z.2 q2)]
    · rw [if_neg q2, decide_eq_true ⟨q, q2⟩]
theorem pcn_M {S : SceneV} {n : Nat} {M : ModelV} (hM : MRel S n M) : pcn M.1 M.2.1 16 = pcn S.1 S.2.1 16 := pcn_eq (fun i hi => hM.1 i hi)
theorem hasMean_m {S : SceneV} {n d : Nat} {M : ModelV} (hI : SI S n) (hM : MRel S n M) (hd : d < 64) : f_X5_hasMean M (nI d) = some (decide (¬ wkN S d n = 0 ∧ ¬ pcn S.1 S.2.1 16 ≤ 0)) := by
  have hlt := wk_lt hI d
  unfold f_X5_hasMean
  rw [wk5 hI hM hd, bd_some, X5_plots, bd_some, pcn_M hM]
  by_cases q : wkN S d n = 0
  · rw [if_pos ((n_0 (by omega)).mpr q), decide_eq_false (fun z => z.1 q)]
  · rw [if_neg (fun z => q ((n_0 (by omega)).mp z))]
    by_cases q2 : pcn S.1 S.2.1 16 ≤ 0
    · rw [if_pos q2, decide_eq_false (fun z => z.2 q2)]
    · rw [if_neg q2, decide_eq_true ⟨q, q2⟩]
/-- a day's rain on both sides -/
theorem rainOn {n d : Nat} {R : RcV} {M : ModelV} (h : RlN n R M) (hd : d < 64) : ∃ W T' M', W ≤ 20477952 ∧ f_X4_rainOn R (nI d) = some (nI W, rcT R T') ∧ f_X5_lookUp M (nI (wkN R.1 d n)) = some M' ∧ f_X5_water M' (nI d) = some (nI W) ∧ MRel R.1 n M' ∧ RlN n (rcT R T') M' := by
  have hL := h
  obtain ⟨hI, hM, hS, hG⟩ := h
  have h8 := hI.1
  obtain ⟨a, T', M', e1, e2, e3, e4, e5, e6⟩ := cellsOn hL hd
  have hM' := MS_rel e3 hM
  obtain ⟨W, w1, w2⟩ := wtr_N hI hd n (Nat.le_refl n)
  refine ⟨W, T', M', by omega, ?_, e2, ?_, hM', e4⟩
  · unfold f_X4_rainOn
    rw [e1, bd_some]
    rw [show lp (f_X4_rainOn_L11 (rcT R T') (nI d) a) fu (0, 0) = _ from rain_loop (R := rcT R T') (s := wkN R.1 d n) hI e6 e5 hd, bd_some]
    show some (wtr R.1 n (wkN R.1 d n) d n, rcT R T') = _
    rw [w2]
  · unfold f_X5_water
    rw [wk5 hI hM' hd, bd_some, water_loop hI hM' (wk_lt hI d) hd, bd_some, w2]
theorem sm_mean {R : RcV} {M : ModelV} (h : Rel R M) (d w : Int32) : Sm (f_X4_mean R d w) (f_X5_mean M d w) := by
  have hR := h
  obtain ⟨n, hL⟩ := h
  have hL2 := hL
  obtain ⟨hI, hM, hS, hG⟩ := hL2
  have h8 := hI.1
  unfold f_X4_mean f_X5_mean
  simp only [X4_isDay, X5_isDay, X4_isPart, in_1, bd_some, b2i_0, decide_eq_false_iff_not]
  by_cases hd : okP 64 d
  · rw [if_neg (not_not_intro hd), if_neg (not_not_intro hd)]
    obtain ⟨e, he, rfl⟩ := okP_n hd (by omega)
    by_cases hw : okP 2 w
    · rw [if_neg (not_not_intro hw), if_neg (not_not_intro hw)]
      obtain ⟨v, hv, rfl⟩ := okP_n hw (by omega)
      rw [hasMean_c hI he, hasMean_m hI hM he, bd_some, bd_some]
      simp only [decide_eq_false_iff_not]
      by_cases hm : ¬ wkN R.1 e n = 0 ∧ ¬ pcn R.1.1 R.1.2.1 16 ≤ 0
      · rw [if_neg (not_not_intro hm), if_neg (not_not_intro hm)]
        obtain ⟨W, T', M', w1, e1, e2, e3, hM', e4⟩ := rainOn hL he
        obtain ⟨P, P1, P2⟩ := pcn_N hI 16 (by omega)
        have P0 : P ≠ 0 := fun q => hm.2 (by rw [P2, q]; decide)
        have P3 : pcn M'.1 M'.2.1 16 = nI P := by rw [← P2]; exact pcn_M hM'
        have P4 : f_X1_plotCount (nI W, rcT R T').2.1 = some (nI P) := by rw [X1_plotCount]; exact congrArg some P2
        rw [e1, bd_some, P4, bd_some, X4_part (by omega) (by omega) (by omega), bd_some, wk5 hI hM he, bd_some, e2, bd_some, e3, bd_some, X5_plots, P3, bd_some, X5_part (by omega) (by omega) (by omega) (gcd_ne2 P0), bd_some]
        exact ⟨_, _, _, rfl, rfl, n, e4⟩
      · rw [if_pos hm, if_pos hm]
        exact Sm_same hR _
    · rw [if_pos hw, if_pos hw]
      exact Sm_same hR _
  · rw [if_pos hd, if_pos hd]
    exact Sm_same hR _
/-- the days' loop on both sides -/
theorem total_lp {n b : Nat} (w : Int32) (hb : b < 64) : ∀ (k i fuel W D : Nat) (R : RcV) (M : ModelV), b + 1 - i = k → i ≤ b + 1 → k < fuel → D ≤ i → W ≤ D * 20477952 → (D ≠ 0 → ¬ pcn R.1.1 R.1.2.1 16 ≤ 0) → RlN n R M → ∃ W' D' T' M', lp (f_X4_total_L29 (nI b) w) fuel (nI W, nI D, nI i, R) = some (nI W', nI D', rcT R T') ∧ lp (f_X5_total_L40 (nI b) w) fuel (nI W, nI D, nI i, M) = some (nI W', nI D', M') ∧ D' ≤ b + 1 ∧ W' ≤ D' * 20477952 ∧ (D' ≠ 0 → ¬ pcn R.1.1 R.1.2.1 16 ≤ 0) ∧ RlN n (rcT R T') M' := by
  intro k
  induction k with
  | zero =>
    intro i fuel W D R M hk hi hf hD hW hP hL
    obtain ⟨f', rfl⟩ : ∃ f', fuel = f' + 1 := ⟨fuel - 1, by omega⟩
    have c : nI b < nI i := by rw [n_lt (by omega) (by omega)]; omega
    refine ⟨W, D, R.2.2.2.2.1, M, lp_end ?_, lp_end ?_, by omega, hW, hP, hL⟩
    · unfold f_X4_total_L29
      simp only [if_pos c]
    · unfold f_X5_total_L40
      simp only [if_pos c]
  | succ k ih =>
    intro i fuel W D R M hk hi hf hD hW hP hL
    obtain ⟨f', rfl⟩ : ∃ f', fuel = f' + 1 := ⟨fuel - 1, by omega⟩
    have c : ¬ nI b < nI i := by rw [n_lt (by omega) (by omega)]; omega
    have hI := hL.1
    have hM := hL.2.1
    have hi64 : i < 64 := by omega
    by_cases hm : ¬ wkN R.1 i n = 0 ∧ ¬ pcn R.1.1 R.1.2.1 16 ≤ 0
    · obtain ⟨V, T', M', v1, e1, e2, e3, hM', e4⟩ := rainOn hL hi64
      have s1 : f_X4_total_L29 (nI b) w (nI W, nI D, nI i, R) = some (.inl (nI (W + V), nI (D + 1), nI (i + 1), rcT R T')) := by
        unfold f_X4_total_L29
        simp only [if_neg c, hasMean_c hI hi64, bd_some, b2i_0, decide_eq_true hm, Bool.true_eq_false, reduceIte, e1, nI_add, nI_1]
      have s2 : f_X5_total_L40 (nI b) w (nI W, nI D, nI i, M) = some (.inl (nI (W + V), nI (D + 1), nI (i + 1), M')) := by
        unfold f_X5_total_L40
        simp only [if_neg c, hasMean_m hI hM hi64, bd_some, b2i_0, decide_eq_true hm, Bool.true_eq_false, reduceIte, wk5 hI hM hi64, e2, e3, nI_add, nI_1]
      obtain ⟨W', D', T2, M2, r1, r2, r3, r4, r5, r6⟩ := ih (i + 1) f' (W + V) (D + 1) (rcT R T') M' (by omega) (by omega) (by omega) (by omega) (by omega) (fun _ => hm.2) e4
      exact ⟨W', D', T2, M2, by rw [lp_go s1]; exact r1, by rw [lp_go s2]; exact r2, r3, r4, r5, r6⟩
    · have s1 : f_X4_total_L29 (nI b) w (nI W, nI D, nI i, R) = some (.inl (nI W, nI D, nI (i + 1), R)) := by
        unfold f_X4_total_L29
        simp only [if_neg c, hasMean_c hI hi64, bd_some, b2i_0, decide_eq_false hm, reduceIte, nI_1]
      have s2 : f_X5_total_L40 (nI b) w (nI W, nI D, nI i, M) = some (.inl (nI W, nI D, nI (i + 1), M)) := by
        unfold f_X5_total_L40
        simp only [if_neg c, hasMean_m hI hM hi64, bd_some, b2i_0, decide_eq_false hm, reduceIte, nI_1]
      obtain ⟨W', D', T2, M2, r1, r2, r3, r4, r5, r6⟩ := ih (i + 1) f' W D R M (by omega) (by omega) (by omega) (by omega) hW hP hL
      exact ⟨W', D', T2, M2, by rw [lp_go s1]; exact r1, by rw [lp_go s2]; exact r2, r3, r4, r5, r6⟩
theorem sm_total {R : RcV} {M : ModelV} (h : Rel R M) (a b w : Int32) : Sm (f_X4_total R a b w) (f_X5_total M a b w) := by
  have hR := h
  obtain ⟨n, hL⟩ := h
  have hL2 := hL
  obtain ⟨hI, hM, hS, hG⟩ := hL2
  have h8 := hI.1
  unfold f_X4_total f_X5_total
  simp only [X4_areDays, X5_isDay, in_2, bd_some, b2i_0, decide_eq_false_iff_not]
  by_cases h1 : okP 64 a
  · by_cases h2 : okP 64 b
    · by_cases h3 : a.toInt ≤ b.toInt
      · rw [if_neg (not_not_intro (And.intro h1 (And.intro h2 h3))), if_neg (not_not_intro h1), if_neg (not_not_intro h2), if_neg (show ¬ b < a by rw [i_lt]; omega)]
        obtain ⟨i, hi, rfl⟩ := okP_n h1 (by omega)
        obtain ⟨j, hj, rfl⟩ := okP_n h2 (by omega)
        have hij : i ≤ j := by rw [nI_toInt (by omega), nI_toInt (by omega)] at h3; omega
        by_cases hw : okP 3 w
        · have hw2 := (ok_lt (N := 2) (c := 2) w (by decide)).mp hw
          rw [if_neg hw2.1, if_pos hw2.2, if_neg (not_not_intro hw)]
          obtain ⟨v, hv, rfl⟩ := okP_n hw (by omega)
          obtain ⟨W, D, T', M', r1, r2, r3, r4, r5, r6⟩ := total_lp (n := n) (nI v) hj (j + 1 - i) i fu 0 0 R M rfl (by omega) (fu_lt (by omega)) (by omega) (by omega) (fun q => absurd rfl q) hL
          rw [show lp (f_X4_total_L29 (nI j) (nI v)) fu (0, 0, nI i, R) = _ from r1, show lp (f_X5_total_L40 (nI j) (nI v)) fu (0, 0, nI i, M) = _ from r2, bd_some, bd_some]
          obtain ⟨P, P1, P2⟩ := pcn_N hI 16 (by omega)
          have P3 : pcn M'.1 M'.2.1 16 = nI P := by rw [← P2]; exact pcn_M r6.2.1
          have P4 : f_X1_plotCount (rcT R T').1 = some (nI P) := by rw [X1_plotCount]; exact congrArg some P2
          simp only [P4, X5_plots, P3, bd_some]
          have fin : ∀ r : Int32, Sm (some (r, rcT R T')) (some (r, M')) := fun r => ⟨r, _, _, rfl, rfl, n, r6⟩
          have hW : W < 2 ^ 31 := by omega
          by_cases q2 : v = 2
          · subst q2
            rw [if_pos (show nI 2 = 2 from rfl), if_pos (show nI 2 = 2 from rfl)]
            exact fin _
          · have q3 : ¬ nI v = 2 := fun z => q2 ((n_eq (a := v) (b := 2) (by omega) (by omega)).mp z)
            rw [if_neg q3, if_neg q3, X4_part hW (by omega) (by omega), bd_some]
            by_cases q4 : D = 0
            · rw [if_pos ((n_0 (by omega)).mpr q4)]
              have : W = 0 := by subst q4; omega
              subst this
              rcases (show v = 0 ∨ v = 1 by omega) with rfl | rfl
              · rw [if_pos rfl, (part0 P).1]; exact fin _
              · rw [if_neg (show ¬ (1 : Nat) = 0 by decide), (part0 P).2]; exact fin _
            · have P0 : P ≠ 0 := fun q => r5 q4 (by rw [P2, q]; decide)
              rw [if_neg (fun z => q4 ((n_0 (by omega)).mp z)), X5_part hW (by omega) (by omega) (gcd_ne2 P0), bd_some]
              exact fin _
        · rw [if_pos hw]
          have hw2 := fun q => hw ((ok_lt (N := 2) (c := 2) w (by decide)).mpr q)
          by_cases h5 : w < 0
          · rw [if_pos h5]
            exact Sm_same hR _
          · rw [if_neg h5, if_neg (show ¬ w ≤ 2 from fun q => hw2 ⟨h5, q⟩)]
            exact Sm_same hR _
      · rw [if_pos (show ¬ (okP 64 a ∧ okP 64 b ∧ a.toInt ≤ b.toInt) from fun q => h3 q.2.2), if_neg (not_not_intro h1), if_neg (not_not_intro h2), if_pos (show b < a by rw [i_lt]; omega)]
        exact Sm_same hR _
    · rw [if_pos (show ¬ (okP 64 a ∧ okP 64 b ∧ a.toInt ≤ b.toInt) from fun q => h2 q.2.1), if_neg (not_not_intro h1), if_pos h2]
      exact Sm_same hR _
  · rw [if_pos (show ¬ (okP 64 a ∧ okP 64 b ∧ a.toInt ≤ b.toInt) from fun q => h1 q.1), if_pos h1]
    exact Sm_same hR _
theorem sm_spread {R : RcV} {M : ModelV} (h : Rel R M) (d : Int32) : Sm (f_X4_spread R d) (f_X5_spread M d) := by
  have hR := h
  obtain ⟨n, hL⟩ := h
  have hL2 := hL
  obtain ⟨hI, hM, hS, hG⟩ := hL2
  have h8 := hI.1
  unfold f_X4_spread f_X5_spread
  simp only [X4_isDay, X5_isDay, bd_some, b2i_0, decide_eq_false_iff_not]
  by_cases hd : okP 64 d
  · rw [if_neg (not_not_intro hd), if_neg (not_not_intro hd)]
    obtain ⟨e, he, rfl⟩ := okP_n hd (by omega)
    have hw := wk_lt hI e
    rw [wk1 hI he, wk5 hI hM he, bd_some, bd_some]
    by_cases h0 : wkN R.1 e n = 0
    · have hz : nI (wkN R.1 e n) = 0 := (n_0 (by omega)).mpr h0
      rw [if_pos hz, if_pos hz]
      exact Sm_same hR _
    · have hz : ¬ nI (wkN R.1 e n) = 0 := fun q => h0 ((n_0 (by omega)).mp q)
      rw [if_neg hz, if_neg hz]
      obtain ⟨a, T', M', e1, e2, e3, e4, e5, e6, e7, e8, e9, e10⟩ := look hI (Nat.pos_of_ne_zero h0) hw hS
      rw [e1, e2, bd_some, bd_some, gd_t (decide_eq_true e6), X0_farOfAll e4.2.2.2, bd_some, spread_loop hI (MS_rel e10 hM) hw, bd_some, spr_8 hI 8 h8 (Nat.le_refl 8)]
      exact ⟨_, _, _, rfl, rfl, n, RlN_look hL e3 e10⟩
  · rw [if_pos hd, if_pos hd]
    exact Sm_same hR _
