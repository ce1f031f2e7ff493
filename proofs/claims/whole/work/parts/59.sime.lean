/-! ===== PURE HALF. shared, estimate, doubt ===== -/
theorem wo_bits {s g h : Nat} (hs : s < 256) (hg : g < 8) (hh8 : h < 8) (hb : (s &&& (255 - 2 ^ g)).testBit h = true) : h ≠ g ∧ s.testBit h = true := by
  rw [b_wob s hs g hg h hh8] at hb
  simp only [Bool.and_eq_true, Bool.not_eq_true', decide_eq_false_iff_not] at hb
  exact ⟨hb.2, hb.1⟩
/-- who isn't of the set shares nothing -/
theorem c2_0 {S : SceneV} {n s g h : Nat} (hI : SI S n) (hs : s < 256) (hg : g < 8) (hh8 : h < 8) (hb : s.testBit h = false) : ∀ k, k ≤ 256 → c2 (ownP S n (s ||| 2 ^ g)) (ownP S n (s &&& (255 - 2 ^ g))) (nI g) (nI h) k = 0
  | 0, _ => rfl
  | k + 1, hk => by
    have h8 := hI.1
    rw [c2, c2_0 hI hs hg hh8 hb k (by omega), if_neg ?_]
    · rfl
    · intro q
      rcases own_or (s := s &&& (255 - 2 ^ g)) hI (show k < 256 by omega) with q2 | ⟨h0, a1, a2, a3, -⟩
      · rw [q2] at q; exact m1_n (by omega) q.2
      · rw [a3] at q
        have e := (n_eq (by omega) (by omega)).mp q.2
        subst e
        rw [(wo_bits hs hg (by omega) a2).2] at hb
        exact absurd hb (by decide)
theorem sm_shared {R : RcV} {M : ModelV} (h : Rel R M) (d g j : Int32) : Sm (f_X4_shared R d g j) (f_X5_shared M d g j) := by
  have hR := h
  obtain ⟨n, hL⟩ := h
  have hL2 := hL
  obtain ⟨hI, hM, hS, hG⟩ := hL2
  have h8 := hI.1
  unfold f_X4_shared f_X5_shared
  simp only [X1_knows hI.2.1 h8, X5_isGauge hM.2.1 h8, X4_isDay, X5_isDay, bd_some, b2i_0, decide_eq_false_iff_not]
  by_cases hk : okP n g
  · rw [if_neg (not_not_intro hk), if_neg (not_not_intro hk)]
    obtain ⟨k, hkn, rfl⟩ := okP_n hk (by omega)
    have hk8 : k < 8 := by omega
    by_cases hj : okP n j
    · rw [if_neg (not_not_intro hj), if_neg (not_not_intro hj)]
      obtain ⟨i, hin, rfl⟩ := okP_n hj (by omega)
      have hi8 : i < 8 := by omega
      by_cases hd : okP 64 d
      · rw [if_neg (not_not_intro hd), if_neg (not_not_intro hd)]
        obtain ⟨e, he, rfl⟩ := okP_n hd (by omega)
        by_cases hki : nI k = nI i
        · rw [if_pos hki, if_pos hki]
          exact Sm_same hR _
        · rw [if_neg hki, if_neg hki]
          have hs := wk_lt hI e
          have hwo := b_wolt _ hs k hk8
          rw [wk1 hI he, wk5 hI hM he, bd_some, bd_some, X4_without hs hk8, X5_without hs hk8, bd_some, bd_some]
          by_cases h0 : wkN R.1 e n &&& (255 - 2 ^ k) = 0
          · have hz := (n_0 (show wkN R.1 e n &&& (255 - 2 ^ k) < 65536 by omega)).mpr h0
            rw [if_pos hz, if_pos hz]
            exact Sm_same hR _
          · have hz : ¬ nI (wkN R.1 e n &&& (255 - 2 ^ k)) = 0 := fun q => h0 ((n_0 (by omega)).mp q)
            rw [if_neg hz, if_neg hz]
            obtain ⟨a, T1, b, T2, M2, l1, l2, l3, l4, l5, l6, l7, l8, l9⟩ := look2 hI hk8 hs h0 hS
            have hM2 := MS_rel l5 hM
            rw [X4_with hs hk8, bd_some, l1, bd_some, bd_some, l2, bd_some, gd_t (decide_eq_true l8), gd_t (decide_eq_true l9), X0_inBoth l6.2.1 l7.2.1, bd_some, l3, bd_some, X5_has hs hi8, bd_some]
            cases hb : (wkN R.1 e n).testBit i with
            | false =>
              rw [if_pos rfl, c2_0 hI hs hk8 hi8 hb 256 (by omega)]
              exact ⟨_, _, _, rfl, rfl, n, RlN_look hL l4 l5⟩
            | true =>
              rw [if_neg (show ¬ true = false by decide), X5_sharedOf hI hM2 hs hk8 hi8, bd_some]
              exact ⟨_, _, _, rfl, rfl, n, RlN_look hL l4 l5⟩
      · rw [if_pos hd, if_pos hd]
        exact Sm_same hR _
    · rw [if_pos hj, if_pos hj]
      exact Sm_same hR _
  · rw [if_pos hk, if_pos hk]
    exact Sm_same hR _
/-- rain of the others, as a number -/
theorem oth_N {S : SceneV} {n s1 d g : Nat} (hI : SI S n) (hg : g < 8) (hd : d < 64) : ∀ k, k ≤ 256 → ∃ W, W ≤ k * 9999 ∧ oth S n s1 (wkN S d n &&& (255 - 2 ^ g)) d g k = nI W
  | 0, _ => ⟨0, by omega, rfl⟩
  | k + 1, hk => by
    have h8 := hI.1
    obtain ⟨W, h1, h2⟩ := oth_N (s1 := s1) hI hg hd k (by omega)
    rw [oth, h2]
    by_cases q : ownP S n s1 k = nI g ∧ ¬ ownP S n (wkN S d n &&& (255 - 2 ^ g)) k = -1
    · rw [if_pos q]
      rcases own_or (s := wkN S d n &&& (255 - 2 ^ g)) hI (show k < 256 by omega) with q2 | ⟨h0, a1, a2, a3, -⟩
      · exact absurd q2 q.2
      · have b := (wk_bit hI (by omega)).mp (wo_bits (wk_lt hI d) hg (by omega) a2).2
        obtain ⟨v, v1, v2⟩ := rd_n (hI.2.2.2.2.2.1 h0 d a1 hd) b.2.2
        rw [a3, cl_n (by omega), v2, nI_add]
        exact ⟨_, by omega, rfl⟩
    · rw [if_neg q]
      exact ⟨W, Nat.le_trans h1 (Nat.mul_le_mul_right _ (Nat.le_succ k)), Int32.add_zero _⟩
theorem sharedW {S : SceneV} {n d g : Nat} {M : ModelV} (hI : SI S n) (hM : MRel S n M) (hd : d < 64) (hg : g < 8) : f_X5_sharedWater M (nI d) (nI g) = some (oth S n (wkN S d n ||| 2 ^ g) (wkN S d n &&& (255 - 2 ^ g)) d g 256) := by
  unfold f_X5_sharedWater
  rw [wk5 hI hM hd, bd_some, sharedW_loop hI hM (wk_lt hI d) hd hg, bd_some, oth_shw hI (wk_lt hI d) hg 256 (by omega)]
theorem sm_estimate {R : RcV} {M : ModelV} (h : Rel R M) (d g w : Int32) : Sm (f_X4_estimate R d g w) (f_X5_estimate M d g w) := by
  have hR := h
  obtain ⟨n, hL⟩ := h
  have hL2 := hL
  obtain ⟨hI, hM, hS, hG⟩ := hL2
  have h8 := hI.1
  unfold f_X4_estimate f_X5_estimate
  simp only [X1_knows hI.2.1 h8, X5_isGauge hM.2.1 h8, X4_isDay, X5_isDay, X4_isPart, in_1, bd_some, b2i_0, decide_eq_false_iff_not]
  by_cases hk : okP n g
  · rw [if_neg (not_not_intro hk), if_neg (not_not_intro hk)]
    obtain ⟨k, hkn, rfl⟩ := okP_n hk (by omega)
    have hk8 : k < 8 := by omega
    by_cases hd : okP 64 d
    · rw [if_neg (not_not_intro hd), if_neg (not_not_intro hd)]
      obtain ⟨e, he, rfl⟩ := okP_n hd (by omega)
      by_cases hw : okP 2 w
      · rw [if_neg (not_not_intro hw), if_neg (not_not_intro hw)]
        obtain ⟨v, hv, rfl⟩ := okP_n hw (by omega)
        have hs := wk_lt hI e
        have hwo := b_wolt _ hs k hk8
        rw [wk1 hI he, wk5 hI hM he, bd_some, bd_some, X4_without hs hk8, X5_without hs hk8, bd_some, bd_some]
        by_cases h0 : wkN R.1 e n &&& (255 - 2 ^ k) = 0
        · have hz := (n_0 (show wkN R.1 e n &&& (255 - 2 ^ k) < 65536 by omega)).mpr h0
          rw [if_pos hz, if_pos hz]
          exact Sm_same hR _
        · have hz : ¬ nI (wkN R.1 e n &&& (255 - 2 ^ k)) = 0 := fun q => h0 ((n_0 (by omega)).mp q)
          rw [if_neg hz, if_neg hz]
          obtain ⟨a, T1, b, T2, M2, l1, l2, l3, l4, l5, l6, l7, l8, l9⟩ := look2 hI hk8 hs h0 hS
          have hM2 := MS_rel l5 hM
          have hRL := RlN_look hL l4 l5
          have hc := cN_le (ownP R.1 n (wkN R.1 e n ||| 2 ^ k)) k 256
          obtain ⟨W, w1, w2⟩ := oth_N (s1 := wkN R.1 e n ||| 2 ^ k) hI hk8 he 256 (Nat.le_refl _)
          have ho : f_X4_rainOfOthers (rcT R T2) (nI e) (nI k) a b = some (nI W) := by
            rw [others_loop (R := rcT R T2) (n := n) (s1 := wkN R.1 e n ||| 2 ^ k) (s2 := wkN R.1 e n &&& (255 - 2 ^ k)) hI l8 l9 l6.2.1 l7.2.1 he]
            exact congrArg some w2
          rw [X4_with hs hk8, bd_some, l1, bd_some, bd_some, l2, bd_some, gd_t (decide_eq_true l8), gd_t (ix_n hk8 (by omega)), l3, bd_some, b_with _ hs k hk8, X5_size hI hM2 (b_withlt _ hs k hk8) hk8, bd_some]
          simp only [cl_n (show k < 65536 by omega), l6.2.2.1 k hk8, cntP_N, ho, gd_t (ix_n hk8 (by omega : (8 : Nat) ≤ 65536)), bd_some, sharedW hI hM2 he hk8, w2]
          have hz2 : (nI (cN (ownP R.1 n (wkN R.1 e n ||| 2 ^ k)) k 256) = 0) ↔ cN (ownP R.1 n (wkN R.1 e n ||| 2 ^ k)) k 256 = 0 := n_0 (by omega)
          by_cases q : cN (ownP R.1 n (wkN R.1 e n ||| 2 ^ k)) k 256 = 0
          · rw [if_pos (hz2.mpr q), if_pos (hz2.mpr q)]
            exact ⟨_, _, _, rfl, rfl, n, hRL⟩
          · rw [if_neg (fun z => q (hz2.mp z)), if_neg (fun z => q (hz2.mp z)), X4_part (by omega) (by omega) (by omega), bd_some, X5_part (by omega) (by omega) (by omega) (gcd_ne2 q), bd_some]
            exact ⟨_, _, _, rfl, rfl, n, hRL⟩
      · rw [if_pos hw, if_pos hw]
        exact Sm_same hR _
    · rw [if_pos hd, if_pos hd]
      exact Sm_same hR _
  · rw [if_pos hk, if_pos hk]
    exact Sm_same hR _
/-- a set with one that is in it already -/
theorem with_in {s g : Nat} (hs : s < 256) (hg : g < 8) (hb : s.testBit g = true) : s ||| 2 ^ g = s := by
  refine bit_eq (b_withlt s hs g hg) hs (fun i hi => ?_)
  rw [b_withb s hs g hg i hi]
  by_cases q : i = g
  · subst q; rw [hb]; rfl
  · rw [decide_eq_false q, Bool.or_false]
/-- farther off than B, on either side -/
theorem abs_far {off B : Int32} (hB : 0 ≤ B.toInt) : ((if 0 ≤ off then off else 0 - off) ≤ B) ↔ (¬ B < off ∧ -off ≤ B) := by
  rw [i_lt]
  by_cases h : (0 : Int32) ≤ off
  · rw [if_pos h, i_le, i_le]
    rw [i_le, t0] at h
    have hr := fb_rng off
    have e : (-off).toInt = -off.toInt := by
      rw [show -off = 0 - off from (Int32.zero_sub off).symm, fb_subI (by rw [t0]; omega) (by rw [t0]; omega), t0]
      omega
    rw [e]
    omega
  · rw [if_neg h, Int32.zero_sub]
    rw [i_le, t0] at h
    constructor
    · intro q; exact ⟨by omega, q⟩
    · intro q; exact q.2
theorem doubt_lp {n d v s : Nat} (hd : d < 64) (hv : v < 10000) : ∀ (k i fuel A : Nat) (R : RcV) (M : ModelV), n - i = k → i ≤ n → k < fuel → A < 256 → s = wkN R.1 d n → RlN n R M → ∃ A' T' M', lp (f_X4_doubt_L36 (nI d) (nI v) (nI s)) fuel (nI A, nI i, R) = some (nI A', rcT R T') ∧ lp (f_X5_doubt_L33 (nI d) (nI v) (nI s)) fuel (nI A, nI i, M) = some (nI A', M') ∧ RlN n (rcT R T') M' := by
  intro k
  induction k with
  | zero =>
    intro i fuel A R M hk hi hf hA hs hL
    have h8 := hL.1.1
    obtain ⟨f', rfl⟩ : ∃ f', fuel = f' + 1 := ⟨fuel - 1, by omega⟩
    have c : R.1.2.2.1 ≤ nI i := by rw [hL.1.2.1, n_le (by omega) (by omega)]; omega
    have c5 : M.2.2.1 ≤ nI i := by rw [hL.2.1.2.1, n_le (by omega) (by omega)]; omega
    refine ⟨A, R.2.2.2.2.1, M, lp_end ?_, lp_end ?_, hL⟩
    · unfold f_X4_doubt_L36
      simp only [if_pos c]
    · unfold f_X5_doubt_L33
      simp only [if_pos c5]
  | succ k ih =>
    intro i fuel A R M hk hi hf hA hsw hL
    have hL2 := hL
    obtain ⟨hI, hM, hS, hG⟩ := hL2
    have h8 := hI.1
    obtain ⟨f', rfl⟩ : ∃ f', fuel = f' + 1 := ⟨fuel - 1, by omega⟩
    have c : ¬ R.1.2.2.1 ≤ nI i := by rw [hI.2.1, n_le (by omega) (by omega)]; omega
    have c5 : ¬ M.2.2.1 ≤ nI i := by rw [hM.2.1, n_le (by omega) (by omega)]; omega
    have hi8 : i < 8 := by omega
    have hin : i < n := by omega
    have hs : s < 256 := by rw [hsw]; exact wk_lt hI d
    have hwo := b_wolt s hs i hi8
    by_cases hb : s.testBit i = true ∧ s &&& (255 - 2 ^ i) ≠ 0
    · obtain ⟨b1, b2⟩ := hb
      have hz : ¬ nI (s &&& (255 - 2 ^ i)) = 0 := fun q => b2 ((n_0 (by omega)).mp q)
      obtain ⟨a, T1, b, T2, M2, l1, l2, l3, l4, l5, l6, l7, l8, l9⟩ := look2 hI hi8 hs b2 hS
      have hM2 := MS_rel l5 hM
      have hRL := RlN_look hL l4 l5
      have w1 := wk1 hI hd
      rw [← hsw] at w1
      have hsw2 : wkN R.1 d n = s := hsw.symm
      have hc := cN_le (ownP R.1 n s) i 256
      have l6c := l6.2.2.1 i hi8
      rw [with_in hs hi8 b1] at l6c
      have ho := others_loop (R := rcT R T2) (n := n) (g := i) (s1 := s ||| 2 ^ i) (s2 := s &&& (255 - 2 ^ i)) hI l8 l9 l6.2.1 l7.2.1 hd
      have hw5 := sharedW hI hM2 hd hi8
      rw [hsw2] at hw5
      obtain ⟨O, hO⟩ : ∃ O, O = oth R.1 n (s ||| 2 ^ i) (s &&& (255 - 2 ^ i)) d i 256 := ⟨_, rfl⟩
      rw [← hO] at hw5
      have ho' : f_X4_rainOfOthers (rcT R T2) (nI d) (nI i) a b = some O := by rw [hO]; exact ho
      have hB : 0 ≤ (nI v * nI (cN (ownP R.1 n s) i 256)).toInt := by
        have := Nat.mul_le_mul (show v ≤ 9999 by omega) hc
        rw [pk_mul, nI_toInt (by omega)]
        omega
      have hrd := ((hM2.2.2 i hin).2.2.2 d hd).2
      have hx := abs_far (off := sRd R.1 (i * 64 + d) * nI (cN (ownP R.1 n s) i 256) - O) hB
      have hD : f_X4_isDoubted R (nI d) (nI i) (nI v) = some (decide (¬ ((if 0 ≤ sRd R.1 (i * 64 + d) * nI (cN (ownP R.1 n s) i 256) - O then sRd R.1 (i * 64 + d) * nI (cN (ownP R.1 n s) i 256) - O else 0 - (sRd R.1 (i * 64 + d) * nI (cN (ownP R.1 n s) i 256) - O)) ≤ nI v * nI (cN (ownP R.1 n s) i 256))), rcT R T2) := by
        unfold f_X4_isDoubted
        simp only [w1, bd_some, X4_with hs hi8, l1, X4_without hs hi8, l2, gd_t (decide_eq_true l8), gd_t (ix_n hi8 (by omega : (8 : Nat) ≤ 65536)), cl_n (show i < 65536 by omega), X1_readingOf R.1 hi8 hd, ho', l6c, cntP_N]
        by_cases q : (if 0 ≤ sRd R.1 (i * 64 + d) * nI (cN (ownP R.1 n s) i 256) - O then sRd R.1 (i * 64 + d) * nI (cN (ownP R.1 n s) i 256) - O else 0 - (sRd R.1 (i * 64 + d) * nI (cN (ownP R.1 n s) i 256) - O)) ≤ nI v * nI (cN (ownP R.1 n s) i 256)
        · rw [if_pos q, decide_eq_false (not_not_intro q)]
        · rw [if_neg q, decide_eq_true q]
      by_cases q : (if 0 ≤ sRd R.1 (i * 64 + d) * nI (cN (ownP R.1 n s) i 256) - O then sRd R.1 (i * 64 + d) * nI (cN (ownP R.1 n s) i 256) - O else 0 - (sRd R.1 (i * 64 + d) * nI (cN (ownP R.1 n s) i 256) - O)) ≤ nI v * nI (cN (ownP R.1 n s) i 256)
      · rw [decide_eq_false (not_not_intro q)] at hD
        obtain ⟨x1, x2⟩ := hx.mp q
        have s1 : f_X4_doubt_L36 (nI d) (nI v) (nI s) (nI A, nI i, R) = some (.inl (nI A, nI (i + 1), rcT R T2)) := by
          unfold f_X4_doubt_L36
          simp only [if_neg c, X4_isIn hs hi8, b1, bd_some, b2i_0, Bool.true_eq_false, reduceIte, X4_without hs hi8, if_neg hz, hD, nI_1]
        have s2 : f_X5_doubt_L33 (nI d) (nI v) (nI s) (nI A, nI i, M) = some (.inl (nI A, nI (i + 1), M2)) := by
          unfold f_X5_doubt_L33
          simp only [if_neg c5, X5_has hs hi8, b1, bd_some, b2i_0, Bool.true_eq_false, reduceIte, X5_without hs hi8, if_neg hz, l3, X5_size hI hM2 hs hi8, cntP_N, ix_day' hi8 hd, gd_t (ix_n (show i * 64 + d < 512 by omega) (by omega : (512 : Nat) ≤ 65536)), cl_n (show i * 64 + d < 65536 by omega), hw5, hrd, if_neg x1, if_pos x2, Int32.or_zero, nI_1]
        obtain ⟨A', T', M', r1, r2, r3⟩ := ih (i + 1) f' A (rcT R T2) M2 (by omega) (by omega) (by omega) hA hsw hRL
        exact ⟨A', T', M', by rw [lp_go s1]; exact r1, by rw [lp_go s2]; exact r2, r3⟩
      · rw [decide_eq_true q] at hD
        have s1 : f_X4_doubt_L36 (nI d) (nI v) (nI s) (nI A, nI i, R) = some (.inl (nI (A ||| 2 ^ i), nI (i + 1), rcT R T2)) := by
          unfold f_X4_doubt_L36
          simp only [if_neg c, X4_isIn hs hi8, b1, bd_some, b2i_0, Bool.true_eq_false, reduceIte, X4_without hs hi8, if_neg hz, hD, X4_with hA hi8, nI_1]
        have s2 : f_X5_doubt_L33 (nI d) (nI v) (nI s) (nI A, nI i, M) = some (.inl (nI (A ||| 2 ^ i), nI (i + 1), M2)) := by
          unfold f_X5_doubt_L33
          simp only [if_neg c5, X5_has hs hi8, b1, bd_some, b2i_0, Bool.true_eq_false, reduceIte, X5_without hs hi8, if_neg hz, l3, X5_size hI hM2 hs hi8, cntP_N, ix_day' hi8 hd, gd_t (ix_n (show i * 64 + d < 512 by omega) (by omega : (512 : Nat) ≤ 65536)), cl_n (show i * 64 + d < 65536 by omega), hw5, hrd, nI_1]
          by_cases x1 : nI v * nI (cN (ownP R.1 n s) i 256) < sRd R.1 (i * 64 + d) * nI (cN (ownP R.1 n s) i 256) - O
          · simp only [if_pos x1, bd_some, b_with A hA i hi8]
          · have x2 : ¬ -(sRd R.1 (i * 64 + d) * nI (cN (ownP R.1 n s) i 256) - O) ≤ nI v * nI (cN (ownP R.1 n s) i 256) := fun z => q (hx.mpr ⟨x1, z⟩)
            simp only [if_neg x1, if_neg x2, bd_some, b_with A hA i hi8]
        obtain ⟨A', T', M', r1, r2, r3⟩ := ih (i + 1) f' (A ||| 2 ^ i) (rcT R T2) M2 (by omega) (by omega) (by omega) (b_withlt A hA i hi8) hsw hRL
        exact ⟨A', T', M', by rw [lp_go s1]; exact r1, by rw [lp_go s2]; exact r2, r3⟩
    · have s1 : f_X4_doubt_L36 (nI d) (nI v) (nI s) (nI A, nI i, R) = some (.inl (nI A, nI (i + 1), R)) := by
        unfold f_X4_doubt_L36
        simp only [if_neg c, X4_isIn hs hi8, bd_some, b2i_0, X4_without hs hi8, nI_1]
        cases hb1 : s.testBit i with
        | false => simp only [reduceIte, bd_some]
        | true =>
          have hz : nI (s &&& (255 - 2 ^ i)) = 0 := (n_0 (by omega)).mpr (Classical.byContradiction fun q => hb ⟨hb1, q⟩)
          simp only [Bool.true_eq_false, hz, reduceIte, bd_some]
      have s2 : f_X5_doubt_L33 (nI d) (nI v) (nI s) (nI A, nI i, M) = some (.inl (nI A, nI (i + 1), M)) := by
        unfold f_X5_doubt_L33
        simp only [if_neg c5, X5_has hs hi8, bd_some, b2i_0, X5_without hs hi8, nI_1]
        cases hb1 : s.testBit i with
        | false => simp only [reduceIte, bd_some]
        | true =>
          have hz : nI (s &&& (255 - 2 ^ i)) = 0 := (n_0 (by omega)).mpr (Classical.byContradiction fun q => hb ⟨hb1, q⟩)
          simp only [Bool.true_eq_false, hz, reduceIte, bd_some]
      obtain ⟨A', T', M', r1, r2, r3⟩ := ih (i + 1) f' A R M (by omega) (by omega) (by omega) hA hsw hL
      exact ⟨A', T', M', by rw [lp_go s1]; exact r1, by rw [lp_go s2]; exact r2, r3⟩
theorem sm_doubt {R : RcV} {M : ModelV} (h : Rel R M) (d w : Int32) : Sm (f_X4_doubt R d w) (f_X5_doubt M d w) := by
  have hR := h
  obtain ⟨n, hL⟩ := h
  have hL2 := hL
  obtain ⟨hI, hM, hS, hG⟩ := hL2
  have h8 := hI.1
  unfold f_X4_doubt f_X5_doubt
  simp only [X4_isDay, X5_isDay, in_9999, bd_some, b2i_0, decide_eq_false_iff_not]
  by_cases hd : okP 64 d
  · rw [if_neg (not_not_intro hd), if_neg (not_not_intro hd)]
    obtain ⟨e, he, rfl⟩ := okP_n hd (by omega)
    by_cases hw : okP 10000 w
    · have hw2 := (ok_lt (N := 9999) (c := 9999) w (by decide)).mp hw
      rw [if_neg hw2.1, if_pos hw2.2, if_neg (not_not_intro hw)]
      obtain ⟨v, hv, rfl⟩ := okP_n hw (by omega)
      obtain ⟨A, T', M', r1, r2, r3⟩ := doubt_lp (n := n) (s := wkN R.1 e n) he hv n 0 fu 0 R M (by omega) (by omega) (fu_lt (by omega)) (by omega) rfl hL
      rw [wk1 hI he, wk5 hI hM he, bd_some, bd_some]
      rw [show lp (f_X4_doubt_L36 (nI e) (nI v) (nI (wkN R.1 e n))) fu (0, 0, R) = _ from r1, show lp (f_X5_doubt_L33 (nI e) (nI v) (nI (wkN R.1 e n))) fu (0, 0, M) = _ from r2, bd_some, bd_some]
      exact ⟨_, _, _, rfl, rfl, n, r3⟩
    · rw [if_pos hw]
      have hw2 := fun q => hw ((ok_lt (N := 9999) (c := 9999) w (by decide)).mpr q)
      by_cases h5 : w < 0
      · rw [if_pos h5]
        exact Sm_same hR _
      · rw [if_neg h5, if_neg (show ¬ w ≤ 9999 from fun q => hw2 ⟨h5, q⟩)]
        exact Sm_same hR _
  · rw [if_pos hd, if_pos hd]
    exact Sm_same hR _
