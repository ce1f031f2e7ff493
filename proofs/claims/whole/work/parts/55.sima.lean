/-! ===== PURE HALF. row, gauge, move, reach ===== -/
theorem SI_rows {S : SceneV} {n y : Nat} {a b : Int32} (h : SI S n) (ha : okP 16 a) (hb : okP 16 b) : SI (upd S.1 y a, upd S.2.1 y b, S.2.2) n := by
  obtain ⟨h1, h2, h3, h4, h5, h6, h7, h8⟩ := h
  exact ⟨h1, h2, fun j hj => ⟨upd_P (P := okP 16) ha (h3 j hj).1, upd_P (P := okP 16) hb (h3 j hj).2⟩, h4, h5, h6, h7, h8⟩
theorem sm_row {R : RcV} {M : ModelV} (h : Rel R M) (y a b : Int32) : Sm (f_X4_row R y a b) (f_X5_row M y a b) := by
  have hR := h
  obtain ⟨n, hI, hM, hS, hG⟩ := h
  unfold f_X4_row f_X5_row
  simp only [X4_isPlot, in_15, bd_some, b2i_0, decide_eq_false_iff_not]
  by_cases hy : okP 16 y
  · by_cases ha : okP 16 a
    · by_cases hb : okP 16 b
      · rw [if_neg (not_not_intro (And.intro ha hy)), if_neg (not_not_intro (And.intro hb hy)), if_neg (not_not_intro hy), if_neg (not_not_intro ha), if_neg (not_not_intro hb)]
        obtain ⟨j, hj, rfl⟩ := okP_n hy (by omega)
        simp only [gd_t (ix_n hj (by omega : (16 : Nat) ≤ 65536)), cl_n (show j < 65536 by omega), f_X3_letAllGo, bd_some, X1_plotCount, X5_plots]
        have e : pcn (upd M.1 j a) (upd M.2.1 j b) 16 = pcn (upd R.1.1 j a) (upd R.1.2.1 j b) 16 := pcn_eq (fun i hi => ⟨upd_cg (hM.1 i hi).1, upd_cg (hM.1 i hi).2⟩)
        rw [e]
        exact ⟨_, _, _, rfl, rfl, n, SI_rows hI ha hb, ⟨fun i hi => ⟨upd_cg (hM.1 i hi).1, upd_cg (hM.1 i hi).2⟩, hM.2⟩, SR_go _ n hS rfl rfl rfl rfl, hG⟩
      · rw [if_neg (not_not_intro (And.intro ha hy)), if_pos (show ¬ (okP 16 b ∧ okP 16 y) from fun q => hb q.1), if_neg (not_not_intro hy), if_neg (not_not_intro ha), if_pos hb]
        exact Sm_same hR _
    · rw [if_pos (show ¬ (okP 16 a ∧ okP 16 y) from fun q => ha q.1), if_neg (not_not_intro hy), if_pos ha]
      exact Sm_same hR _
  · rw [if_pos (show ¬ (okP 16 a ∧ okP 16 y) from fun q => hy q.2), if_pos hy]
    exact Sm_same hR _
theorem m6_neg : ((-6 : Int32) < 0) := by decide
theorem gauge_lp {n : Nat} (hn : n < 8) (M : ModelV) (hM : M.2.2.1 = nI n) : ∃ z : (Nat → Int32) × (Nat → Int32), lp f_X5_gauge_L67 fu (0, M) = some (M.1, M.2.1, M.2.2.1, M.2.2.2.1, M.2.2.2.2.1, M.2.2.2.2.2.1, z.1, z.2, M.2.2.2.2.2.2.2.2) ∧ (∀ d, d < 64 → z.1 (n * 64 + d) = 0 ∧ z.2 (n * 64 + d) = -6) ∧ ∀ j, j < n * 64 → z.1 j = M.2.2.2.2.2.2.1 j ∧ z.2 j = M.2.2.2.2.2.2.2.1 j := by
  have h := lp_inv (body := f_X5_gauge_L67) (fun i (z : (Nat → Int32) × (Nat → Int32)) => (nI i, ((M.1, M.2.1, M.2.2.1, M.2.2.2.1, M.2.2.2.2.1, M.2.2.2.2.2.1, z.1, z.2, M.2.2.2.2.2.2.2.2) : ModelV))) 64 (fun i z => (∀ d, d < i → z.1 (n * 64 + d) = 0 ∧ z.2 (n * 64 + d) = -6) ∧ ∀ j, j < n * 64 → z.1 j = M.2.2.2.2.2.2.1 j ∧ z.2 j = M.2.2.2.2.2.2.2.1 j) (fun z => ((M.1, M.2.1, M.2.2.1, M.2.2.2.1, M.2.2.2.2.1, M.2.2.2.2.2.1, z.1, z.2, M.2.2.2.2.2.2.2.2) : ModelV)) (fun i z hi hz => by
    obtain ⟨z1, z2⟩ := hz
    refine ⟨(upd z.1 (n * 64 + i) 0, upd z.2 (n * 64 + i) (-6)), ?_, fun d hd => ?_, fun j hj => ?_⟩
    · unfold f_X5_gauge_L67
      have c : ¬ (64 : Int32) ≤ nI i := lit_le (N := 64) (by omega) hi
      simp only [if_neg c, hM, ix_day' hn hi, gd_t (ix_n (show n * 64 + i < 512 by omega) (by omega : (512 : Nat) ≤ 65536)), cl_n (show n * 64 + i < 65536 by omega), nI_1]
      rfl
    · by_cases q : d = i
      · subst q; exact ⟨if_pos rfl, if_pos rfl⟩
      · have e : ¬ n * 64 + d = n * 64 + i := by omega
        exact ⟨(if_neg e).trans (z1 d (by omega)).1, (if_neg e).trans (z1 d (by omega)).2⟩
    · have e : ¬ j = n * 64 + i := by omega
      exact ⟨(if_neg e).trans (z2 j hj).1, (if_neg e).trans (z2 j hj).2⟩) (fun z _ => by
    unfold f_X5_gauge_L67
    have c : (64 : Int32) ≤ nI 64 := by decide
    simp only [if_pos c]) fu 0 (M.2.2.2.2.2.2.1, M.2.2.2.2.2.2.2.1) (by omega) (fu_lt (by omega)) ⟨fun d hd => absurd hd (by omega), fun j _ => ⟨rfl, rfl⟩⟩
  exact h
theorem SI_gauge {S : SceneV} {n : Nat} {x y : Int32} (h : SI S n) (hn : n < 8) (hp : plP x ∧ plP y) (hf : ∀ g, g < n → ¬ atP S x y g) : SI (S.1, S.2.1, nI n + 1, upd S.2.2.2.1 n x, upd S.2.2.2.2.1 n y, S.2.2.2.2.2) (n + 1) := by
  obtain ⟨h1, h2, h3, h4, h5, h6, h7, h8⟩ := h
  refine ⟨by omega, ?_, h3, fun g hg => ?_, fun g hg => ?_, fun g d hg hd => ?_, fun g hg => h7 g (by omega), fun i j hi hj e1 e2 => ?_⟩
  · show nI n + 1 = nI (n + 1)
    rw [nI_1]
  · by_cases q : g = n
    · subst q; exact ⟨by show plP (upd _ _ _ _); rw [pk_us]; exact hp.1, by show plP (upd _ _ _ _); rw [pk_us]; exact hp.2⟩
    · exact ⟨by show plP (upd _ _ _ _); rw [pk_un q]; exact (h4 g (by omega)).1, by show plP (upd _ _ _ _); rw [pk_un q]; exact (h4 g (by omega)).2⟩
  · by_cases q : g = n
    · subst q
      have e := (h7 g (by omega) (by omega)).1
      show -400 ≤ (sRe S g).toInt ∧ (sRe S g).toInt ≤ 400
      rw [e, t0]; omega
    · exact h5 g (by omega)
  · by_cases q : g = n
    · subst q
      exact Or.inl ((h7 g (by omega) (by omega)).2.2 d hd)
    · exact h6 g d (by omega) hd
  · have e1 : upd S.2.2.2.1 n x i = upd S.2.2.2.1 n x j := e1
    have e2 : upd S.2.2.2.2.1 n y i = upd S.2.2.2.2.1 n y j := e2
    by_cases qi : i = n
    · by_cases qj : j = n
      · omega
      · subst qi
        rw [pk_us, pk_un qj] at e1 e2
        exact absurd ⟨e1.symm, e2.symm⟩ (hf j (by omega))
    · by_cases qj : j = n
      · subst qj
        rw [pk_us, pk_un qi] at e1 e2
        exact absurd ⟨e1, e2⟩ (hf i (by omega))
      · rw [pk_un qi, pk_un qj] at e1 e2
        exact h8 i j (by omega) (by omega) e1 e2
theorem sm_gauge {R : RcV} {M : ModelV} (h : Rel R M) (x y : Int32) : Sm (f_X4_gauge R x y) (f_X5_gauge M x y) := by
  have hR := h
  obtain ⟨n, hI, hM, hS, hG⟩ := h
  have h8 := hI.1
  unfold f_X4_gauge f_X5_gauge
  simp only [X4_isPlace, X5_isPlace, X1_gaugeAt hI, X5_gaugeAt hI hM, bd_some, b2i_0, decide_eq_false_iff_not]
  by_cases hp : plP x ∧ plP y
  · rw [if_neg (not_not_intro hp), if_neg (not_not_intro hp)]
    cases hl : lastM R.1 x y n with
    | some g =>
      have hg := (lastM_lt hl).1
      rw [if_neg (show ¬ orI (some g) (-1) = -1 from n_m1 (by omega)), if_neg (show ¬ orI (some g) (-6) < 0 from n_neg (by omega))]
      exact Sm_same hR _
    | none =>
      rw [if_pos (show orI none (-1) = -1 from rfl), if_pos (show orI none (-6) < 0 from m6_neg)]
      have hn := hI.2.1
      have hn5 := hM.2.1
      by_cases h7 : n < 8
      · rw [if_pos (show R.1.2.2.1 < 8 by rw [hn, show (8 : Int32) = nI 8 from rfl, n_lt (by omega) (by omega)]; exact h7), if_neg (show ¬ M.2.2.1 = 8 by rw [hn5, show (8 : Int32) = nI 8 from rfl, n_eq (by omega) (by omega)]; omega)]
        have i1 : ix R.1.2.2.1 8 = true := by rw [hn]; exact ix_n h7 (by omega)
        have i2 : ix M.2.2.1 8 = true := by rw [hn5]; exact ix_n h7 (by omega)
        have c1 : R.1.2.2.1.toNatClampNeg = n := by rw [hn]; exact cl_n (by omega)
        have c2 : M.2.2.1.toNatClampNeg = n := by rw [hn5]; exact cl_n (by omega)
        simp only [gd_t i1, gd_t i2, c1, c2, f_X3_letAllGo, bd_some]
        obtain ⟨z, e, z1, z2⟩ := gauge_lp h7 (M.1, M.2.1, M.2.2.1, upd M.2.2.2.1 n x, upd M.2.2.2.2.1 n y, upd M.2.2.2.2.2.1 n 0, M.2.2.2.2.2.2) hn5
        rw [e, bd_some]
        simp only
        have er : M.2.2.1 + 1 - 1 = R.1.2.2.1 := by rw [hn, hn5, nI_1, n_pred]
        rw [er]
        refine ⟨_, _, _, rfl, rfl, n + 1, ?_, ⟨hM.1, ?_, fun g hg => ?_⟩, SR_go _ (n + 1) hS rfl rfl rfl rfl, hG⟩
        · show SI (R.1.1, R.1.2.1, R.1.2.2.1 + 1, upd R.1.2.2.2.1 n x, upd R.1.2.2.2.2.1 n y, R.1.2.2.2.2.2) (n + 1)
          rw [hn]
          exact SI_gauge hI h7 hp (lastM_none hl)
        · show M.2.2.1 + 1 = nI (n + 1)
          rw [hn5, nI_1]
        · by_cases q : g = n
          · subst q
            obtain ⟨a1, a2, a3⟩ := hI.2.2.2.2.2.2.1 g (by omega) h7
            refine ⟨?_, ?_, ?_, fun d hd => ⟨?_, ?_⟩⟩
            · show upd _ _ _ _ = upd _ _ _ _; rw [pk_us, pk_us]
            · show upd _ _ _ _ = upd _ _ _ _; rw [pk_us, pk_us]
            · show upd _ _ _ _ = sRe R.1 g; rw [pk_us, a1]
            · show z.1 (g * 64 + d) = b2i (ob (sOut R.1 g) d); rw [(z1 d hd).1, a2, ob_0 hd]; rfl
            · show z.2 (g * 64 + d) = sRd R.1 (g * 64 + d); rw [(z1 d hd).2, a3 d hd]
          · obtain ⟨a1, a2, a3, a4⟩ := hM.2.2 g (by omega)
            refine ⟨?_, ?_, ?_, fun d hd => ⟨?_, ?_⟩⟩
            · show upd _ _ _ _ = upd _ _ _ _; rw [pk_un q, pk_un q, a1]
            · show upd _ _ _ _ = upd _ _ _ _; rw [pk_un q, pk_un q, a2]
            · show upd _ _ _ _ = sRe R.1 g; rw [pk_un q, a3]
            · show z.1 (g * 64 + d) = b2i (ob (sOut R.1 g) d); rw [(z2 (g * 64 + d) (by omega)).1]; exact (a4 d hd).1
            · show z.2 (g * 64 + d) = sRd R.1 (g * 64 + d); rw [(z2 (g * 64 + d) (by omega)).2]; exact (a4 d hd).2
      · have e8 : n = 8 := by omega
        rw [if_neg (show ¬ R.1.2.2.1 < 8 by rw [hn, show (8 : Int32) = nI 8 from rfl, n_lt (by omega) (by omega)]; exact h7), if_pos (show M.2.2.1 = 8 by rw [hn5, e8]; rfl)]
        exact Sm_same hR _
  · rw [if_pos hp, if_pos hp]
    exact Sm_same hR _
theorem SI_move {S : SceneV} {n k : Nat} {x y : Int32} (h : SI S n) (hp : plP x ∧ plP y) (hf : ∀ g, g < n → g ≠ k → ¬ atP S x y g) : SI (S.1, S.2.1, S.2.2.1, upd S.2.2.2.1 k x, upd S.2.2.2.2.1 k y, S.2.2.2.2.2) n := by
  obtain ⟨h1, h2, h3, h4, h5, h6, h7, h8⟩ := h
  refine ⟨h1, h2, h3, fun g hg => ⟨upd_P (P := plP) hp.1 (h4 g hg).1, upd_P (P := plP) hp.2 (h4 g hg).2⟩, h5, h6, h7, fun i j hi hj e1 e2 => ?_⟩
  have e1 : upd S.2.2.2.1 k x i = upd S.2.2.2.1 k x j := e1
  have e2 : upd S.2.2.2.2.1 k y i = upd S.2.2.2.2.1 k y j := e2
  by_cases qi : i = k
  · by_cases qj : j = k
    · omega
    · subst qi
      rw [pk_us, pk_un qj] at e1 e2
      exact absurd ⟨e1.symm, e2.symm⟩ (hf j hj qj)
  · by_cases qj : j = k
    · subst qj
      rw [pk_us, pk_un qi] at e1 e2
      exact absurd ⟨e1, e2⟩ (hf i hi qi)
    · rw [pk_un qi, pk_un qj] at e1 e2
      exact h8 i j hi hj e1 e2
theorem sm_move {R : RcV} {M : ModelV} (h : Rel R M) (g x y : Int32) : Sm (f_X4_move R g x y) (f_X5_move M g x y) := by
  have hR := h
  obtain ⟨n, hI, hM, hS, hG⟩ := h
  have h8 := hI.1
  unfold f_X4_move f_X5_move
  simp only [X1_knows hI.2.1 h8, X5_isGauge hM.2.1 h8, X4_isPlace, X5_isPlace, X1_gaugeAt hI, X5_gaugeAt hI hM, bd_some, b2i_0, decide_eq_false_iff_not]
  by_cases hk : okP n g
  · rw [if_neg (not_not_intro hk), if_neg (not_not_intro hk)]
    obtain ⟨k, hkn, rfl⟩ := okP_n hk (by omega)
    by_cases hp : plP x ∧ plP y
    · rw [if_neg (not_not_intro hp), if_neg (not_not_intro hp)]
      have hk8 : k < 8 := by omega
      obtain ⟨a1, a2, a3, a4⟩ := hM.2.2 k hkn
      simp only [X1_farFrom R.1 x y hk8, X5_square, gd_t (ix_n hk8 (by omega : (8 : Nat) ≤ 65536)), cl_n (show k < 65536 by omega), f_X3_letAllGo, bd_some, a1, a2]
      have fin : (∀ i, i < n → i ≠ k → ¬ atP R.1 x y i) → Sm (some ((x - sPx R.1 k) * (x - sPx R.1 k) + (y - sPy R.1 k) * (y - sPy R.1 k), ((R.1.1, R.1.2.1, R.1.2.2.1, upd R.1.2.2.2.1 k x, upd R.1.2.2.2.2.1 k y, R.1.2.2.2.2.2), R.2.1, R.2.2.1, R.2.2.2.1, (R.2.2.2.2.1.1, 0, R.2.2.2.2.1.2.2), R.2.2.2.2.2))) (some ((x - sPx R.1 k) * (x - sPx R.1 k) + (y - sPy R.1 k) * (y - sPy R.1 k), (M.1, M.2.1, M.2.2.1, upd M.2.2.2.1 k x, upd M.2.2.2.2.1 k y, M.2.2.2.2.2.1, M.2.2.2.2.2.2.1, M.2.2.2.2.2.2.2.1, M.2.2.2.2.2.2.2.2.1, 0, M.2.2.2.2.2.2.2.2.2.2))) := fun hf =>
        ⟨_, _, _, rfl, rfl, n, SI_move hI hp hf, ⟨hM.1, hM.2.1, fun i hi => ⟨upd_cg (hM.2.2 i hi).1, upd_cg (hM.2.2 i hi).2.1, (hM.2.2 i hi).2.2⟩⟩, SR_go _ n hS rfl rfl rfl rfl, hG⟩
      cases hl : lastM R.1 x y n with
      | none =>
        rw [if_pos (show orI none (-1) = -1 from rfl), if_pos (show orI none (-6) < 0 from m6_neg)]
        exact fin (fun i hi _ => lastM_none hl i hi)
      | some j =>
        have hj := (lastM_lt hl).1
        have hj2 := (lastM_lt hl).2
        rw [if_neg (show ¬ orI (some j) (-1) = -1 from n_m1 (by omega)), if_neg (show ¬ orI (some j) (-6) < 0 from n_neg (by omega))]
        by_cases hjk : j = k
        · rw [if_pos (show orI (some j) (-1) = nI k from congrArg nI hjk), if_pos (show orI (some j) (-6) = nI k from congrArg nI hjk)]
          exact fin (fun i hi q r => q ((hI.2.2.2.2.2.2.2 i j hi hj (r.1.trans hj2.1.symm) (r.2.trans hj2.2.symm)).trans hjk))
        · rw [if_neg (show ¬ orI (some j) (-1) = nI k from fun q => hjk ((n_eq (by omega) (by omega)).mp q)), if_neg (show ¬ orI (some j) (-6) = nI k from fun q => hjk ((n_eq (by omega) (by omega)).mp q))]
          exact Sm_same hR _
    · rw [if_pos hp, if_pos hp]
      exact Sm_same hR _
  · rw [if_pos hk, if_pos hk]
    exact Sm_same hR _
theorem t400 : (400 : Int32).toInt = 400 := by decide
theorem tm400 : (-400 : Int32).toInt = -400 := by decide
theorem sm_reach {R : RcV} {M : ModelV} (h : Rel R M) (g v : Int32) : Sm (f_X4_reach R g v) (f_X5_reach M g v) := by
  have hR := h
  obtain ⟨n, hI, hM, hS, hG⟩ := h
  have h8 := hI.1
  unfold f_X4_reach f_X5_reach
  simp only [X1_knows hI.2.1 h8, X5_isGauge hM.2.1 h8, X5_in, bd_some, b2i_0, decide_eq_false_iff_not, i_lt, i_le, t400, tm400]
  by_cases hk : okP n g
  · rw [if_neg (not_not_intro hk), if_neg (not_not_intro hk)]
    obtain ⟨k, hkn, rfl⟩ := okP_n hk (by omega)
    by_cases hv : -400 ≤ v.toInt ∧ v.toInt ≤ 400
    · have hk8 : k < 8 := by omega
      rw [if_neg (show ¬ v.toInt < -400 by omega), if_pos hv.2, if_neg (not_not_intro hv)]
      simp only [gd_t (ix_n hk8 (by omega : (8 : Nat) ≤ 65536)), cl_n (show k < 65536 by omega), f_X3_letAllGo, bd_some, (hM.2.2 k hkn).2.2.1]
      obtain ⟨g1, g2, g3, g4, g5, g6, g7, g8⟩ := hI
      refine ⟨_, _, _, rfl, rfl, n, ⟨g1, g2, g3, g4, fun i hi => ?_, g6, fun i hi hi8 => ⟨?_, (g7 i hi hi8).2⟩, g8⟩, ⟨hM.1, hM.2.1, fun i hi => ⟨(hM.2.2 i hi).1, (hM.2.2 i hi).2.1, upd_cg (hM.2.2 i hi).2.2.1, (hM.2.2 i hi).2.2.2⟩⟩, SR_go _ n hS rfl rfl rfl rfl, hG⟩
      · exact upd_P (P := fun z => -400 ≤ z.toInt ∧ z.toInt ≤ 400) hv (g5 i hi)
      · show upd _ _ _ _ = 0
        rw [pk_un (by omega)]
        exact (g7 i hi hi8).1
    · rw [if_pos hv]
      by_cases h1 : v.toInt < -400
      · rw [if_pos h1]
        exact Sm_same hR _
      · rw [if_neg h1, if_neg (show ¬ v.toInt ≤ 400 by omega)]
        exact Sm_same hR _
  · rw [if_pos hk, if_pos hk]
    exact Sm_same hR _
