/-! ===== PURE HALF. fail, rain, of, reading, working ===== -/
theorem nar_b (b : Bool) : vp_nar .boolean (b2i b) = b2i b := by cases b <;> rfl
theorem vl_s {f : Nat → Int64} {k : Nat} {x : Int64} : vp_updL f k x k = x := if_pos rfl
theorem vl_n {f : Nat → Int64} {k j : Nat} {x : Int64} (h : j ≠ k) : vp_updL f k x j = f j := if_neg h
theorem X1_putOut (S : SceneV) {g d : Nat} (on : Bool) (hg : g < 8) : f_X1_putOut S (nI g) (nI d) (b2i on) = some (scX S (vp_updL (sOut S) g (if on = true then sOut S g ||| ((1 : Int64) <<< ((nI d).toInt64 &&& 63)) else sOut S g &&& (((1 : Int64) <<< ((nI d).toInt64 &&& 63)) ^^^ ((-1) : Int64)))) (sRd S)) := by
  unfold f_X1_putOut
  simp only [gd_t (ix_n hg (by omega : (8 : Nat) ≤ 65536)), cl_n (show g < 65536 by omega), b2i_0]
  cases on
  · rw [if_pos rfl]; rfl
  · rw [if_neg (by decide)]; rfl
theorem fail_c {n g a b : Nat} {R : RcV} (on : Bool) (hg : g < 8) (hb : b < 64) (ha : a ≤ b) : ∃ o : Nat → Int64, lp (f_X4_fail_L38 (nI g) (nI b) (b2i on)) fu (nI a, R) = some (scX R.1 o (sRd R.1), R.2) ∧ (∀ j, j ≠ g → o j = sOut R.1 j) ∧ ∀ d, d < 64 → ob (o g) d = if a ≤ d ∧ d < b + 1 then on else ob (sOut R.1 g) d := by
  have h := lp_inv (body := f_X4_fail_L38 (nI g) (nI b) (b2i on)) (fun i (o : Nat → Int64) => (nI i, ((scX R.1 o (sRd R.1), R.2) : RcV))) (b + 1) (fun i o => a ≤ i ∧ (∀ j, j ≠ g → o j = sOut R.1 j) ∧ ∀ d, d < 64 → ob (o g) d = if a ≤ d ∧ d < i then on else ob (sOut R.1 g) d) (fun o => ((scX R.1 o (sRd R.1), R.2) : RcV)) (fun i o hi ho => by
    obtain ⟨o1, o2, o3⟩ := ho
    refine ⟨vp_updL o g (if on = true then o g ||| ((1 : Int64) <<< ((nI i).toInt64 &&& 63)) else o g &&& (((1 : Int64) <<< ((nI i).toInt64 &&& 63)) ^^^ ((-1) : Int64))), ?_, by omega, fun j hj => ?_, fun d hd => ?_⟩
    · unfold f_X4_fail_L38
      have c : ¬ nI b < nI i := by rw [n_lt (by omega) (by omega)]; omega
      have e : (if b2i on = 1 then some 1 else some 0 : Option Int32) = some (b2i on) := by cases on <;> rfl
      simp only [if_neg c, e, bd_some, X1_putOut (scX R.1 o (sRd R.1)) (d := i) on hg, nI_1]
    · rw [vl_n hj]; exact o2 j hj
    · rw [vl_s]
      cases on
      · rw [if_neg (by decide), ob_clr _ (show i < 64 by omega) hd, o3 d hd]
        by_cases q : d = i
        · rw [if_pos (show a ≤ d ∧ d < i + 1 by omega)]; simp [q]
        · by_cases q2 : a ≤ d ∧ d < i
          · rw [if_pos q2, if_pos (show a ≤ d ∧ d < i + 1 by omega)]; rfl
          · rw [if_neg q2, if_neg (show ¬ (a ≤ d ∧ d < i + 1) by omega)]; simp [q]
      · rw [if_pos rfl, ob_set _ (show i < 64 by omega) hd, o3 d hd]
        by_cases q : d = i
        · rw [if_pos (show a ≤ d ∧ d < i + 1 by omega)]; simp [q]
        · by_cases q2 : a ≤ d ∧ d < i
          · rw [if_pos q2, if_pos (show a ≤ d ∧ d < i + 1 by omega)]; rfl
          · rw [if_neg q2, if_neg (show ¬ (a ≤ d ∧ d < i + 1) by omega)]; simp [q]) (fun o ho => by
    unfold f_X4_fail_L38
    have c : nI b < nI (b + 1) := by rw [n_lt (by omega) (by omega)]; omega
    simp only [if_pos c]) fu a (sOut R.1) (by omega) (fu_lt (by omega)) ⟨by omega, fun j _ => rfl, fun d _ => by rw [if_neg (by omega)]⟩
  obtain ⟨o, h1, -, h2, h3⟩ := h
  exact ⟨o, h1, h2, h3⟩
theorem fail_m {g a b : Nat} (M : ModelV) (on : Bool) (hg : g < 8) (hb : b < 64) (ha : a ≤ b) : ∃ o : Nat → Int32, lp (f_X5_fail_L45 (nI g) (nI b) (b2i on)) fu (nI a, M) = some (M.1, M.2.1, M.2.2.1, M.2.2.2.1, M.2.2.2.2.1, M.2.2.2.2.2.1, o, M.2.2.2.2.2.2.2) ∧ ∀ j d, d < 64 → o (j * 64 + d) = if j = g ∧ a ≤ d ∧ d < b + 1 then b2i on else M.2.2.2.2.2.2.1 (j * 64 + d) := by
  have h := lp_inv (body := f_X5_fail_L45 (nI g) (nI b) (b2i on)) (fun i (o : Nat → Int32) => (nI i, ((M.1, M.2.1, M.2.2.1, M.2.2.2.1, M.2.2.2.2.1, M.2.2.2.2.2.1, o, M.2.2.2.2.2.2.2) : ModelV))) (b + 1) (fun i o => a ≤ i ∧ ∀ j d, d < 64 → o (j * 64 + d) = if j = g ∧ a ≤ d ∧ d < i then b2i on else M.2.2.2.2.2.2.1 (j * 64 + d)) (fun o => ((M.1, M.2.1, M.2.2.1, M.2.2.2.1, M.2.2.2.2.1, M.2.2.2.2.2.1, o, M.2.2.2.2.2.2.2) : ModelV)) (fun i o hi ho => by
    obtain ⟨o1, o2⟩ := ho
    have hi64 : i < 64 := by omega
    refine ⟨upd o (g * 64 + i) (b2i on), ?_, by omega, fun j d hd => ?_⟩
    · unfold f_X5_fail_L45
      have c : ¬ nI b < nI i := by rw [n_lt (by omega) (by omega)]; omega
      have e : (if b2i on = 1 then some 1 else some 0 : Option Int32) = some (b2i on) := by cases on <;> rfl
      simp only [if_neg c, e, bd_some, nar_b, ix_day' hg hi64, gd_t (ix_n (show g * 64 + i < 512 by omega) (by omega : (512 : Nat) ≤ 65536)), cl_n (show g * 64 + i < 65536 by omega), nI_1]
    · by_cases q : j = g ∧ d = i
      · obtain ⟨rfl, rfl⟩ := q
        rw [pk_us, if_pos (show j = j ∧ a ≤ d ∧ d < d + 1 by omega)]
      · rw [pk_un (show ¬ j * 64 + d = g * 64 + i by omega), o2 j d hd]
        by_cases q2 : j = g ∧ a ≤ d ∧ d < i
        · rw [if_pos q2, if_pos (show j = g ∧ a ≤ d ∧ d < i + 1 by omega)]
        · rw [if_neg q2, if_neg (show ¬ (j = g ∧ a ≤ d ∧ d < i + 1) by omega)]) (fun o ho => by
    unfold f_X5_fail_L45
    have c : nI b < nI (b + 1) := by rw [n_lt (by omega) (by omega)]; omega
    simp only [if_pos c]) fu a M.2.2.2.2.2.2.1 (by omega) (fu_lt (by omega)) ⟨by omega, fun j d _ => by rw [if_neg (by omega)]⟩
  obtain ⟨o, h1, -, h2⟩ := h
  exact ⟨o, h1, h2⟩
theorem SI_out {S : SceneV} {n g : Nat} {o : Nat → Int64} (h : SI S n) (hg : g < n) (ho : ∀ j, j ≠ g → o j = sOut S j) : SI (scX S o (sRd S)) n := by
  obtain ⟨h1, h2, h3, h4, h5, h6, h7, h8⟩ := h
  exact ⟨h1, h2, h3, h4, h5, h6, fun i hi hi8 => ⟨(h7 i hi hi8).1, (ho i (by omega)).trans (h7 i hi hi8).2.1, (h7 i hi hi8).2.2⟩, h8⟩
theorem sm_fail_main {n g a b : Nat} {R : RcV} {M : ModelV} (h : RlN n R M) (on : Bool) (hg : g < n) (hb : b < 64) (ha : a ≤ b) : Sm ((lp (f_X4_fail_L38 (nI g) (nI b) (b2i on)) fu (nI a, R)).bind (fun x8 => (f_X1_daysOut x8.1 (nI g)).bind (fun x15 => some (x15, x8)))) ((lp (f_X5_fail_L45 (nI g) (nI b) (b2i on)) fu (nI a, M)).bind (fun x14 => (f_X5_daysOut x14 (nI g)).bind (fun x21 => some (x21, x14)))) := by
  obtain ⟨hI, hM, hS, hG⟩ := h
  have h8 := hI.1
  obtain ⟨o, e1, e2, e3⟩ := fail_c (n := n) (R := R) on (show g < 8 by omega) hb ha
  obtain ⟨p, d1, d2⟩ := fail_m M on (show g < 8 by omega) hb ha
  have hI' := SI_out hI hg e2
  have hM' : MRel (scX R.1 o (sRd R.1)) n (M.1, M.2.1, M.2.2.1, M.2.2.2.1, M.2.2.2.2.1, M.2.2.2.2.2.1, p, M.2.2.2.2.2.2.2) := by
    refine ⟨hM.1, hM.2.1, fun j hj => ⟨(hM.2.2 j hj).1, (hM.2.2 j hj).2.1, (hM.2.2 j hj).2.2.1, fun d hd => ⟨?_, ((hM.2.2 j hj).2.2.2 d hd).2⟩⟩⟩
    show p (j * 64 + d) = b2i (ob (o j) d)
    rw [d2 j d hd]
    by_cases q : j = g
    · subst q
      rw [e3 d hd]
      by_cases q2 : a ≤ d ∧ d < b + 1
      · rw [if_pos ⟨rfl, q2⟩, if_pos q2]
      · rw [if_neg (fun z => q2 z.2), if_neg q2]
        exact ((hM.2.2 j hj).2.2.2 d hd).1
    · rw [if_neg (fun z => q z.1), e2 j q]
      exact ((hM.2.2 j hj).2.2.2 d hd).1
  rw [e1, d1, bd_some, bd_some, X5_daysOut hI' hM' hg, bd_some]
  rw [show f_X1_daysOut ((scX R.1 o (sRd R.1), R.2) : RcV).1 (nI g) = _ from X1_daysOut (scX R.1 o (sRd R.1)) (show g < 8 by omega), bd_some]
  exact ⟨_, _, _, rfl, rfl, n, hI', hM', SR_sc o (sRd R.1) p M.2.2.2.2.2.2.2.1 hS, hG⟩
theorem t9999 : (9999 : Int32).toInt = 9999 := by decide
theorem ok2 {x : Int32} (h : okP 2 x) : x = b2i false ∨ x = b2i true := by
  obtain ⟨k, hk, rfl⟩ := okP_n h (by omega)
  by_cases q : k = 0
  · left; rw [q]; rfl
  · right; rw [show k = 1 by omega]; rfl
theorem ok2_0 (x : Int32) : okP 2 x ↔ x = 0 ∨ x = 1 := by
  rw [i_eq, i_eq, t0, t1]
  show 0 ≤ x.toInt ∧ x.toInt < 2 ↔ _
  omega
theorem sm_fail {R : RcV} {M : ModelV} (h : Rel R M) (g a b on : Int32) : Sm (f_X4_fail R g a b on) (f_X5_fail M g a b on) := by
  have hR := h
  obtain ⟨n, hL⟩ := h
  have hL2 := hL
  obtain ⟨hI, hM, hS, hG⟩ := hL2
  have h8 := hI.1
  unfold f_X4_fail f_X5_fail
  simp only [X1_knows hI.2.1 h8, X5_isGauge hM.2.1 h8, X4_areDays, X5_isDay, in_1, bd_some, b2i_0, decide_eq_false_iff_not]
  by_cases hk : okP n g
  · rw [if_neg (not_not_intro hk), if_neg (not_not_intro hk)]
    obtain ⟨k, hkn, rfl⟩ := okP_n hk (by omega)
    by_cases h1 : okP 64 a
    · by_cases h2 : okP 64 b
      · by_cases h3 : a.toInt ≤ b.toInt
        · rw [if_neg (not_not_intro (And.intro h1 (And.intro h2 h3))), if_neg (not_not_intro h1), if_neg (not_not_intro h2), if_neg (show ¬ b < a by rw [i_lt]; omega)]
          obtain ⟨i, hi, rfl⟩ := okP_n h1 (by omega)
          obtain ⟨j, hj, rfl⟩ := okP_n h2 (by omega)
          have hij : i ≤ j := by rw [nI_toInt (by omega), nI_toInt (by omega)] at h3; omega
          by_cases h4 : okP 2 on
          · rw [if_neg (not_not_intro h4)]
            rcases ok2 h4 with rfl | rfl
            · rw [if_pos (show b2i false = 0 from rfl)]
              exact sm_fail_main hL false hkn hj hij
            · rw [if_neg (show ¬ b2i true = 0 by decide), if_pos (show b2i true = 1 from rfl)]
              exact sm_fail_main hL true hkn hj hij
          · rw [if_pos h4]
            have h5 := fun q => h4 ((ok2_0 on).mpr q)
            rw [if_neg (show ¬ on = 0 from fun q => h5 (Or.inl q)), if_neg (show ¬ on = 1 from fun q => h5 (Or.inr q))]
            exact Sm_same hR _
        · rw [if_pos (show ¬ (okP 64 a ∧ okP 64 b ∧ a.toInt ≤ b.toInt) from fun q => h3 q.2.2), if_neg (not_not_intro h1), if_neg (not_not_intro h2), if_pos (show b < a by rw [i_lt]; omega)]
          exact Sm_same hR _
      · rw [if_pos (show ¬ (okP 64 a ∧ okP 64 b ∧ a.toInt ≤ b.toInt) from fun q => h2 q.2.1), if_neg (not_not_intro h1), if_pos h2]
        exact Sm_same hR _
    · rw [if_pos (show ¬ (okP 64 a ∧ okP 64 b ∧ a.toInt ≤ b.toInt) from fun q => h1 q.1), if_pos h1]
      exact Sm_same hR _
  · rw [if_pos hk, if_pos hk]
    exact Sm_same hR _
theorem SI_rd {S : SceneV} {n g d : Nat} {v : Int32} (h : SI S n) (hg : g < n) (hd : d < 64) (hv : rdP v) : SI (scX S (sOut S) (upd (sRd S) (g * 64 + d) v)) n := by
  obtain ⟨h1, h2, h3, h4, h5, h6, h7, h8⟩ := h
  refine ⟨h1, h2, h3, h4, h5, fun i e hi he => upd_P (P := rdP) hv (h6 i e hi he), fun i hi hi8 => ⟨(h7 i hi hi8).1, (h7 i hi hi8).2.1, fun e he => ?_⟩, h8⟩
  show upd _ _ _ _ = _
  rw [pk_un (show ¬ i * 64 + e = g * 64 + d by omega)]
  exact (h7 i hi hi8).2.2 e he
theorem sm_rain_main {n g d : Nat} {v : Int32} {R : RcV} {M : ModelV} (h : RlN n R M) (hg : g < n) (hd : d < 64) (hv : rdP v) : Sm ((f_X1_readingOf R.1 (nI g) (nI d)).bind (fun x8 => (f_X1_putReading R.1 (nI g) (nI d) v).bind (fun x10 => some (x8, (x10, R.2))))) (gd (ix ((64 * nI g) + nI d) 512) (gd (ix ((64 * nI g) + nI d) 512) (some ((M.2.2.2.2.2.2.2.1 (((64 * nI g) + nI d) : Int32).toNatClampNeg), (M.1, M.2.1, M.2.2.1, M.2.2.2.1, M.2.2.2.2.1, M.2.2.2.2.2.1, M.2.2.2.2.2.2.1, (upd M.2.2.2.2.2.2.2.1 (((64 * nI g) + nI d) : Int32).toNatClampNeg v), M.2.2.2.2.2.2.2.2))))) := by
  obtain ⟨hI, hM, hS, hG⟩ := h
  have h8 := hI.1
  have hg8 : g < 8 := by omega
  unfold f_X1_putReading
  simp only [X1_readingOf R.1 hg8 hd, ix_day hg8 hd, ix_day' hg8 hd, gd_t (ix_n (show g * 64 + d < 512 by omega) (by omega : (512 : Nat) ≤ 65536)), cl_n (show g * 64 + d < 65536 by omega), bd_some, ((hM.2.2 g hg).2.2.2 d hd).2]
  refine ⟨_, _, _, rfl, rfl, n, SI_rd hI hg hd hv, ⟨hM.1, hM.2.1, fun j hj => ⟨(hM.2.2 j hj).1, (hM.2.2 j hj).2.1, (hM.2.2 j hj).2.2.1, fun e he => ⟨((hM.2.2 j hj).2.2.2 e he).1, upd_cg ((hM.2.2 j hj).2.2.2 e he).2⟩⟩⟩, SR_sc _ _ _ _ hS, hG⟩
theorem ok_10000 (x : Int32) : okP 10000 x ↔ 0 ≤ x.toInt ∧ x.toInt ≤ 9999 := by
  show 0 ≤ x.toInt ∧ x.toInt < 10000 ↔ _
  omega
theorem sm_rain {R : RcV} {M : ModelV} (h : Rel R M) (g d v : Int32) : Sm (f_X4_rain R g d v) (f_X5_rain M g d v) := by
  have hR := h
  obtain ⟨n, hL⟩ := h
  have hL2 := hL
  obtain ⟨hI, hM, hS, hG⟩ := hL2
  have h8 := hI.1
  unfold f_X4_rain f_X5_rain
  simp only [X1_knows hI.2.1 h8, X5_isGauge hM.2.1 h8, X4_isDay, X5_isDay, in_9999, bd_some, b2i_0, decide_eq_false_iff_not]
  by_cases hk : okP n g
  · rw [if_neg (not_not_intro hk), if_neg (not_not_intro hk)]
    obtain ⟨k, hkn, rfl⟩ := okP_n hk (by omega)
    by_cases h1 : okP 64 d
    · rw [if_neg (not_not_intro h1), if_neg (not_not_intro h1)]
      obtain ⟨i, hi, rfl⟩ := okP_n h1 (by omega)
      by_cases h2 : v = -6
      · rw [if_pos h2, if_pos h2]
        exact sm_rain_main hL hkn hi (Or.inl h2)
      · rw [if_neg h2, if_neg h2]
        by_cases h3 : okP 10000 v
        · have h4 := (ok_10000 v).mp h3
          rw [if_neg (show ¬ v < 0 by rw [i_lt, t0]; omega), if_pos (show v ≤ 9999 by rw [i_le, t9999]; omega), if_neg (not_not_intro h3)]
          exact sm_rain_main hL hkn hi (Or.inr h4)
        · rw [if_pos h3]
          have h4 := fun q => h3 ((ok_10000 v).mpr q)
          by_cases h5 : v < 0
          · rw [if_pos h5]
            exact Sm_same hR _
          · rw [if_neg h5, if_neg (show ¬ v ≤ 9999 from fun q => by rw [i_lt, t0] at h5; rw [i_le, t9999] at q; exact h4 ⟨by omega, q⟩)]
            exact Sm_same hR _
    · rw [if_pos h1, if_pos h1]
      exact Sm_same hR _
  · rw [if_pos hk, if_pos hk]
    exact Sm_same hR _
theorem sm_of {R : RcV} {M : ModelV} (h : Rel R M) (g w : Int32) : Se (f_X4_of R g w) (f_X5_of M g w) := by
  obtain ⟨n, hI, hM, hS, hG⟩ := h
  have h8 := hI.1
  unfold f_X4_of f_X5_of
  simp only [X1_knows hI.2.1 h8, X5_isGauge hM.2.1 h8, bd_some, b2i_0, decide_eq_false_iff_not]
  by_cases hk : okP n g
  · rw [if_neg (not_not_intro hk), if_neg (not_not_intro hk)]
    obtain ⟨k, hkn, rfl⟩ := okP_n hk (by omega)
    have hk8 : k < 8 := by omega
    obtain ⟨a1, a2, a3, -⟩ := hM.2.2 k hkn
    simp only [gd_t (ix_n hk8 (by omega : (8 : Nat) ≤ 65536)), cl_n (show k < 65536 by omega), a1, a2, a3, X1_daysOut R.1 hk8, X5_daysOut hI hM hkn, X1_daysRead R.1 hk8, X5_daysRead hI hM hkn, bd_some]
    by_cases w0 : w = 0
    · rw [if_pos w0]; exact Se_same _
    · rw [if_neg w0]
      by_cases w1 : w = 1
      · rw [if_pos w1]; exact Se_same _
      · rw [if_neg w1]
        by_cases w2 : w = 2
        · rw [if_pos w2]; exact Se_same _
        · rw [if_neg w2]
          by_cases w3 : w = 3
          · rw [if_pos w3]; exact Se_same _
          · rw [if_neg w3]
            by_cases w4 : w = 4
            · rw [if_pos w4]; exact Se_same _
            · rw [if_neg w4]; exact Se_same _
  · rw [if_pos hk, if_pos hk]
    exact Se_same _
theorem sm_reading {R : RcV} {M : ModelV} (h : Rel R M) (g d : Int32) : Se (f_X4_reading R g d) (f_X5_reading M g d) := by
  obtain ⟨n, hI, hM, hS, hG⟩ := h
  have h8 := hI.1
  unfold f_X4_reading f_X5_reading
  simp only [X1_knows hI.2.1 h8, X5_isGauge hM.2.1 h8, X4_isDay, X5_isDay, bd_some, b2i_0, decide_eq_false_iff_not]
  by_cases hk : okP n g
  · rw [if_neg (not_not_intro hk), if_neg (not_not_intro hk)]
    obtain ⟨k, hkn, rfl⟩ := okP_n hk (by omega)
    have hk8 : k < 8 := by omega
    by_cases h1 : okP 64 d
    · rw [if_neg (not_not_intro h1), if_neg (not_not_intro h1)]
      obtain ⟨i, hi, rfl⟩ := okP_n h1 (by omega)
      simp only [X1_readingOf R.1 hk8 hi, ix_day' hk8 hi, gd_t (ix_n (show k * 64 + i < 512 by omega) (by omega : (512 : Nat) ≤ 65536)), cl_n (show k * 64 + i < 65536 by omega), bd_some, ((hM.2.2 k hkn).2.2.2 i hi).2]
      exact Se_same _
    · rw [if_pos h1, if_pos h1]
      exact Se_same _
  · rw [if_pos hk, if_pos hk]
    exact Se_same _
theorem sm_working {R : RcV} {M : ModelV} (h : Rel R M) (d : Int32) : Se (f_X4_working R d) (f_X5_working M d) := by
  obtain ⟨n, hI, hM, hS, hG⟩ := h
  unfold f_X4_working f_X5_working
  simp only [X4_isDay, X5_isDay, bd_some, b2i_0, decide_eq_false_iff_not]
  by_cases h1 : okP 64 d
  · rw [if_neg (not_not_intro h1), if_neg (not_not_intro h1)]
    obtain ⟨i, hi, rfl⟩ := okP_n h1 (by omega)
    rw [wk1 hI hi, wk5 hI hM hi, bd_some]
    exact Se_same _
  · rw [if_pos h1, if_pos h1]
    exact Se_same _
