/-! ===== PURE HALF. search: all places; the reference's next ===== -/
abbrev totN (S : SceneV) (n s k : Nat) : Nat := sN (tt S n s (k % 16) (k / 16)) 256
/-- the best of the first k squares: which, and how far -/
def bpk (o : Option (Nat × Nat)) (k t : Nat) : Option (Nat × Nat) := match o with
  | none => some (k, t)
  | some q => if q.2 ≤ t then some q else some (k, t)
theorem bpk_n (k t : Nat) : bpk none k t = some (k, t) := rfl
theorem bpk_s (q : Nat × Nat) (k t : Nat) : bpk (some q) k t = if q.2 ≤ t then some q else some (k, t) := rfl
def bf (S : SceneV) (n s : Nat) : Nat → Option (Nat × Nat)
  | 0 => none
  | k + 1 => if plB S (k % 16) (k / 16) = true ∧ lastM S (nI (k % 16)) (nI (k / 16)) n = none then bpk (bf S n s k) k (totN S n s k) else bf S n s k
theorem bf_skip {S : SceneV} {n s k : Nat} (h : plB S (k % 16) (k / 16) = false) : bf S n s (k + 1) = bf S n s k := by
  rw [bf, if_neg (fun q => by rw [h] at q; exact absurd q.1 (by decide))]
theorem bf_const {S : SceneV} {n s a : Nat} : ∀ {b : Nat}, a ≤ b → (∀ i, a ≤ i → i < b → plB S (i % 16) (i / 16) = false) → bf S n s b = bf S n s a
  | 0, h, _ => by rw [show a = 0 by omega]
  | b + 1, h, hz => by
    by_cases q : a = b + 1
    · rw [q]
    · rw [bf_skip (hz b (by omega) (by omega))]
      exact bf_const (by omega) (fun i h1 h2 => hz i h1 (by omega))
theorem bf_lt {S : SceneV} {n s : Nat} (hI : SI S n) : ∀ {k : Nat} {q : Nat × Nat}, k ≤ 256 → bf S n s k = some q → q.1 < k ∧ q.2 ≤ 627200
  | 0, q, _, h => by rw [bf] at h; exact absurd h (by simp)
  | k + 1, q, hk, h => by
    have ht := tot_le (s := s) hI (show k % 16 < 16 by omega) (show k / 16 < 16 by omega)
    rw [bf] at h
    split at h
    · cases hb : bf S n s k with
      | none =>
        rw [hb, bpk_n] at h
        obtain rfl : (k, totN S n s k) = q := Option.some.inj h
        exact ⟨by show k < k + 1; omega, ht⟩
      | some r =>
        rw [hb, bpk_s] at h
        have hr := bf_lt hI (by omega) hb
        by_cases c : r.2 ≤ totN S n s k
        · rw [if_pos c] at h
          obtain rfl : r = q := Option.some.inj h
          exact ⟨by omega, hr.2⟩
        · rw [if_neg c] at h
          obtain rfl : (k, totN S n s k) = q := Option.some.inj h
          exact ⟨by show k < k + 1; omega, ht⟩
    · have hr := bf_lt hI (by omega) h
      exact ⟨by omega, hr.2⟩
/-- the search as it stands then -/
def stC (o : Option (Nat × Nat)) (Z : SearchV) : SearchV := match o with
  | none => (1000000000, Z.2.1, Z.2.2.1, Z.2.2.2)
  | some q => (nI q.2, nI (q.1 % 16), nI (q.1 / 16), Z.2.2.2)
theorem stC_W (o : Option (Nat × Nat)) (Z : SearchV) : (stC o Z).2.2.2 = Z.2.2.2 := by cases o <;> rfl
/-- one place tried -/
theorem stC_try {S : SceneV} {n s x y : Nat} {Z : SearchV} (hI : SI S n) (hZ : ZR S n s Z.2.2.2) (hx : x < 16) (hy : y < 16) (hp : plB S x y = true) (hg : lastM S (nI x) (nI y) n = none) : f_X2_tryAt (stC (bf S n s (y * 16 + x)) Z) S (nI x) (nI y) = some (stC (bf S n s (y * 16 + x + 1)) Z) := by
  obtain ⟨p1, p2⟩ := p_xy (y := y) hx
  have ht := tot_le (s := s) hI hx hy
  have hZ' : ∀ o, ZR S n s (stC o Z).2.2.2 := fun o => by rw [stC_W]; exact hZ
  have eb : bf S n s (y * 16 + x + 1) = bpk (bf S n s (y * 16 + x)) (y * 16 + x) (sN (tt S n s x y) 256) := by
    rw [bf, if_pos (by rw [p1, p2]; exact ⟨hp, hg⟩)]
    show bpk _ _ (sN (tt S n s ((y * 16 + x) % 16) ((y * 16 + x) / 16)) 256) = _
    rw [p1, p2]
  rw [eb]
  cases hb : bf S n s (y * 16 + x) with
  | none =>
    rw [X2_tryAt (L0 := 1000000000) hI (hZ' _) hx hy rfl (by omega), if_neg (by omega)]
    show some (nI (sN (tt S n s x y) 256), nI x, nI y, Z.2.2.2) = some (nI (sN (tt S n s x y) 256), nI ((y * 16 + x) % 16), nI ((y * 16 + x) / 16), Z.2.2.2)
    rw [p1, p2]
  | some q =>
    have hq := bf_lt hI (by omega) hb
    rw [X2_tryAt (L0 := q.2) hI (hZ' _) hx hy rfl (by omega)]
    show some (if q.2 ≤ sN (tt S n s x y) 256 then stC (some q) Z else (nI (sN (tt S n s x y) 256), nI x, nI y, Z.2.2.2)) = some (stC (if q.2 ≤ sN (tt S n s x y) 256 then some q else some (y * 16 + x, sN (tt S n s x y) 256)) Z)
    by_cases c : q.2 ≤ sN (tt S n s x y) 256
    · rw [if_pos c, if_pos c]
    · rw [if_neg c, if_neg c]
      show some (nI (sN (tt S n s x y) 256), nI x, nI y, Z.2.2.2) = some (nI (sN (tt S n s x y) 256), nI ((y * 16 + x) % 16), nI ((y * 16 + x) / 16), Z.2.2.2)
      rw [p1, p2]
theorem run_in {S : SceneV} {n s y : Nat} {Z : SearchV} (hI : SI S n) (hZ : ZR S n s Z.2.2.2) (hy : y < 16) : lp (f_X2_run_L55 S (nI y)) fu (S.1 y, stC (bf S n s (y * 16)) Z) = some (stC (bf S n s ((y + 1) * 16)) Z) := by
  obtain ⟨f, t, hf16, ht16, hf, ht⟩ := SI_row hI hy
  obtain ⟨N, hN⟩ : ∃ N, N = max f (t + 1) := ⟨_, rfl⟩
  have e0 : bf S n s (y * 16 + f) = bf S n s (y * 16) := bf_const (by omega) (fun i h1 h2 => by
    obtain ⟨p1, p2⟩ := p_xy (x := i - y * 16) (y := y) (by omega)
    rw [show y * 16 + (i - y * 16) = i by omega] at p1 p2
    rw [p1, p2]
    exact plB_no hf ht hf16 ht16 (by omega) (by omega))
  have e1 : bf S n s (y * 16 + 16) = bf S n s (y * 16 + N) := bf_const (by omega) (fun i h1 h2 => by
    obtain ⟨p1, p2⟩ := p_xy (x := i - y * 16) (y := y) (by omega)
    rw [show y * 16 + (i - y * 16) = i by omega] at p1 p2
    rw [p1, p2]
    exact plB_no hf ht hf16 ht16 (by omega) (by omega))
  have h := lp_G (body := f_X2_run_L55 S (nI y)) (fun i z => (nI i, z)) f N (fun i => stC (bf S n s (y * 16 + i)) Z) id (fun i hi1 hi2 => by
    have hi16 : i < 16 := by omega
    obtain ⟨p1, p2⟩ := p_xy (y := y) hi16
    have hpl : plB S i y = true := (plB_row hf ht hf16 ht16 hi16).mpr (by omega)
    unfold f_X2_run_L55
    have c : ¬ S.2.1 y < nI i := by rw [ht, n_lt (by omega) (by omega)]; omega
    simp only [gd_t (ix_n hy (by omega : (16 : Nat) ≤ 65536)), cl_n (show y < 65536 by omega), if_neg c, X1_gaugeAt hI, bd_some, nI_1]
    cases hl : lastM S (nI i) (nI y) n with
    | none =>
      rw [if_pos (show orI none (-1) = -1 from rfl), stC_try hI hZ hi16 hy hpl hl]
      rfl
    | some g =>
      have hg := (lastM_lt hl).1
      have h8 := hI.1
      rw [if_neg (show ¬ orI (some g) (-1) = -1 from n_m1 (by omega)), bd_some, ← Nat.add_assoc]
      rw [show bf S n s (y * 16 + i + 1) = bf S n s (y * 16 + i) by rw [bf, if_neg (fun q => by rw [p1, p2, hl] at q; exact absurd q.2 (by simp))]]) (by
    unfold f_X2_run_L55
    have c : S.2.1 y < nI N := by rw [ht, n_lt (by omega) (by omega)]; omega
    simp only [gd_t (ix_n hy (by omega : (16 : Nat) ≤ 65536)), cl_n (show y < 65536 by omega), if_pos c]; rfl) fu f (by omega) (by omega) (fu_lt (by omega))
  simp only [e0] at h
  rw [hf, show (y + 1) * 16 = y * 16 + 16 by omega, e1]
  exact h
theorem X2_run {S : SceneV} {n s : Nat} (hI : SI S n) (hs : s < 256) (Z : SearchV) : ∃ Z', f_X2_run Z S (nI s) = some (stC (bf S n s 256) Z') := by
  obtain ⟨V', L', e1, e2, e3⟩ := X0_workOut Z.2.2.2.1 Z.2.2.2.2.1 hI hs
  obtain ⟨Z', e4, e5⟩ := X2_rows (s := s) hI (Z.1, Z.2.1, Z.2.2.1, V', L', Z.2.2.2.2.2) e2.2.1 e3
  have h := lp_F (body := f_X2_run_L41 S) (fun i z => (nI i, z)) 16 (fun i => stC (bf S n s (i * 16)) Z') id (fun i hi => by
    unfold f_X2_run_L41
    have c : ¬ (16 : Int32) ≤ nI i := lit_le (N := 16) (by omega) hi
    simp only [if_neg c, gd_t (ix_n hi (by omega : (16 : Nat) ≤ 65536)), cl_n (show i < 65536 by omega), run_in hI e5 hi, bd_some, nI_1]) (by
    unfold f_X2_run_L41
    have c : (16 : Int32) ≤ nI 16 := by decide
    simp only [if_pos c]; rfl) fu 0 (by omega) (fu_lt (by omega))
  refine ⟨Z', ?_⟩
  unfold f_X2_run
  rw [e1, bd_some]
  rw [show lp (f_X2_run_L15 S) fu (0, (Z.1, Z.2.1, Z.2.2.1, V', L', Z.2.2.2.2.2)) = _ from e4, bd_some]
  rw [show lp (f_X2_run_L41 S) fu (0, (1000000000, Z'.2)) = _ from h]
  rfl
/-! the reference -/
theorem lef_big {S : SceneV} {n s p : Nat} (hI : SI S n) (hp : p < 256) (h : ownP S n s p = -1) : lefP S n s p = 1000000000 := by
  have h8 := hI.1
  unfold lefP
  unfold ownP at h
  by_cases hq : plB S (p % 16) (p / 16) = true
  · rw [if_pos hq] at h ⊢
    rcases ow_some (s := s) hI (Nat.le_refl n) (show p % 16 < 16 by omega) (show p / 16 < 16 by omega) with ⟨h1, -⟩ | ⟨g, h1, h2, h3⟩
    · rw [h1]
    · rw [h3] at h; exact absurd h (n_m1 (by omega))
  · rw [if_neg hq]
theorem X5_spreadWith {S : SceneV} {n s x0 y0 : Nat} {M : ModelV} (hI : SI S n) (hM : MRel S n M) (hs : s < 256) (hx0 : x0 < 16) (hy0 : y0 < 16) : f_X5_spreadWith M (nI s) (nI x0) (nI y0) = some (nI (sN (tt S n s x0 y0) 256)) := by
  have h8 := hI.1
  have h := lp_F (body := f_X5_spreadWith_L6 M (nI s) (nI x0) (nI y0)) (fun i z => (z, nI i)) 256 (fun k => nI (sN (tt S n s x0 y0) k)) id (fun k hk => by
    obtain ⟨e1, e2⟩ := k_xy hk
    have hx : k % 16 < 16 := by omega
    have hy : k / 16 < 16 := by omega
    have hd := dNat_le (x0 := x0) (y0 := y0) hx0 hy0 hk
    unfold f_X5_spreadWith_L6
    have c : ¬ (256 : Int32) ≤ nI k := lit_le (N := 256) (by omega) hk
    simp only [if_neg c]
    rw [e2, e1, X5_isPlot hM hx hy]
    simp only [bd_some, b2i_0, nI_1, sN]
    cases hp : plB S (k % 16) (k / 16) with
    | false =>
      rw [if_pos rfl, tt_0 hp, bd_some]
      rfl
    | true =>
      rw [if_neg (show ¬ true = false by decide), X5_ownerOf' hI hM hs hx hy hp, ownP_k]
      simp only [bd_some, X5_square, sqd_n _ hx _ hx0, sqd_n _ hy _ hy0, nI_add]
      have et : tt S n s x0 y0 k = if lefP S n s k ≤ nI (dNat x0 y0 k) then fN S n s k else dNat x0 y0 k := by
        unfold tt
        rw [if_pos hp]
      rw [show sqd (k % 16) x0 + sqd (k / 16) y0 = dNat x0 y0 k from rfl, ← nI_add (sN (tt S n s x0 y0) k) (tt S n s x0 y0 k), et]
      rcases own_or (s := s) hI hk with h1 | ⟨g, g1, g2, g3, -, g5⟩
      · rw [h1, m6_1, if_pos m6_neg, bd_some, bd_some, lef_big hI hk h1, if_neg (show ¬ (1000000000 : Int32) ≤ nI (dNat x0 y0 k) by rw [i_le, big_int, nI_toInt (by omega)]; omega)]
      · rw [g3, m6_n (by omega), if_neg (n_neg (by omega)), X5_far hI hM g1, bd_some, gd_t (ix_n (show g < 8 by omega) (by omega)), cl_n (by omega), (hM.2.2 g g1).2.2.1, bd_some]
        rw [show farS S g (k % 16) (k / 16) - sRe S g = lefP S n s k from g5.symm]
        have ef : nI (fN S n s k) = farS S g (k % 16) (k / 16) := by
          rw [fN_P hI hk hp]
          unfold fP
          rw [if_neg (show ¬ ownP S n s k = -1 by rw [g3]; exact n_m1 (by omega)), g3, cl_n (by omega), lef_re hI hk g1 g3]
        by_cases q : lefP S n s k ≤ nI (dNat x0 y0 k)
        · rw [if_pos q, if_pos q, bd_some, bd_some, ef]
        · rw [if_neg q, if_neg q, bd_some, bd_some]) (by
    unfold f_X5_spreadWith_L6
    have c : (256 : Int32) ≤ nI 256 := by decide
    simp only [if_pos c]; rfl) fu 0 (by omega) (fu_lt (by omega))
  unfold f_X5_spreadWith
  rw [show lp (f_X5_spreadWith_L6 M (nI s) (nI x0) (nI y0)) fu (0, 0) = _ from h]
  rfl
def stM (o : Option (Nat × Nat)) : Int32 × Int32 := match o with
  | none => (-6, 0)
  | some q => (nI q.1, nI q.2)
theorem next_lp {S : SceneV} {n s : Nat} {M : ModelV} (w : Int32) (hI : SI S n) (hM : MRel S n M) (hs : s < 256) : lp (f_X5_next_L35 M w (nI s)) fu (-6, 0, 0) = some (stM (bf S n s 256)) := by
  have h8 := hI.1
  have h := lp_F (body := f_X5_next_L35 M w (nI s)) (fun i z => (z.1, z.2, nI i)) 256 (fun k => stM (bf S n s k)) id (fun k hk => by
    obtain ⟨e1, e2⟩ := k_xy hk
    have hx : k % 16 < 16 := by omega
    have hy : k / 16 < 16 := by omega
    unfold f_X5_next_L35
    have c : ¬ (256 : Int32) ≤ nI k := lit_le (N := 256) (by omega) hk
    simp only [if_neg c]
    rw [e2, e1, X5_isPlot hM hx hy, X5_gaugeAt hI hM, X5_spreadWith hI hM hs hx hy]
    simp only [bd_some, b2i_0, nI_1]
    cases hp : plB S (k % 16) (k / 16) with
    | false =>
      rw [if_pos rfl, bf_skip hp, bd_some]
    | true =>
      rw [if_neg (show ¬ true = false by decide)]
      cases hl : lastM S (nI (k % 16)) (nI (k / 16)) n with
      | some g =>
        have hg := (lastM_lt hl).1
        rw [if_pos (show 0 ≤ orI (some g) (-6) by show 0 ≤ nI g; rw [i_le, t0, nI_toInt (by omega)]; omega), bd_some, bf, if_neg (fun q => by rw [hl] at q; exact absurd q.2 (by simp))]
      | none =>
        rw [if_neg (show ¬ 0 ≤ orI none (-6) by decide)]
        have eb : bf S n s (k + 1) = bpk (bf S n s k) k (totN S n s k) := by
          rw [bf, if_pos ⟨hp, hl⟩]
        rw [eb]
        have ht : totN S n s k ≤ 627200 := tot_le (s := s) hI hx hy
        cases hb : bf S n s k with
        | none =>
          rw [if_pos (show (stM none).1 < 0 from m6_neg), bd_some]
          rfl
        | some q =>
          have hq := bf_lt hI (by omega) hb
          rw [if_neg (show ¬ (stM (some q)).1 < 0 from n_neg (by omega))]
          rw [bpk_s]
          show (if nI q.2 ≤ nI (totN S n s k) then some (nI q.1, nI q.2) else some (nI k, nI (totN S n s k)) : Option (Int32 × Int32)).bind (fun x12 => (some (Sum.inl (x12.1, x12.2, nI (k + 1))) : Option ((Int32 × Int32 × Int32) ⊕ (Int32 × Int32)))) = some (Sum.inl ((stM (if q.2 ≤ totN S n s k then some q else some (k, totN S n s k))).1, (stM (if q.2 ≤ totN S n s k then some q else some (k, totN S n s k))).2, nI (k + 1)))
          by_cases c2 : q.2 ≤ totN S n s k
          · rw [if_pos ((n_le (by omega) (by omega)).mpr c2), if_pos c2, bd_some]
            rfl
          · rw [if_neg (fun z => c2 ((n_le (by omega) (by omega)).mp z)), if_neg c2, bd_some]
            rfl) (by
    unfold f_X5_next_L35
    have c : (256 : Int32) ≤ nI 256 := by decide
    simp only [if_pos c]; rfl) fu 0 (by omega) (fu_lt (by omega))
  exact h
theorem sm_next {R : RcV} {M : ModelV} (h : Rel R M) (d w : Int32) : ∃ r R', f_X4_next R d w = some (r, R') ∧ f_X5_next M d w = some r ∧ Rel R' M := by
  have hR := h
  obtain ⟨n, hL⟩ := h
  have hL2 := hL
  obtain ⟨hI, hM, hS, hG⟩ := hL2
  have h8 := hI.1
  unfold f_X4_next f_X5_next
  simp only [X4_isDay, X5_isDay, in_2, bd_some, b2i_0, decide_eq_false_iff_not]
  by_cases hd : okP 64 d
  · rw [if_neg (not_not_intro hd), if_neg (not_not_intro hd)]
    obtain ⟨e, he, rfl⟩ := okP_n hd (by omega)
    by_cases hw : okP 3 w
    · have hw2 := (ok_lt (N := 2) (c := 2) w (by decide)).mp hw
      rw [if_neg hw2.1, if_pos hw2.2, if_neg (not_not_intro hw)]
      obtain ⟨v, hv, rfl⟩ := okP_n hw (by omega)
      have hs := wk_lt hI e
      obtain ⟨Z', e1⟩ := X2_run hI hs R.2.2.2.2.2
      rw [wk1 hI he, wk5 hI hM he, bd_some, bd_some, e1, next_lp (nI v) hI hM hs, bd_some, bd_some]
      have hF : ∀ Z, Rel (R.1, R.2.1, R.2.2.1, R.2.2.2.1, R.2.2.2.2.1, Z) M := fun Z => ⟨n, hI, hM, hS, hG⟩
      cases hb : bf R.1 n (wkN R.1 e n) 256 with
      | none =>
        rw [if_pos (show (stC none Z').1 = 1000000000 from rfl), if_neg (show ¬ 0 ≤ (stM none).1 by decide)]
        exact ⟨_, _, rfl, rfl, hF _⟩
      | some q =>
        have hq := bf_lt hI (by omega) hb
        obtain ⟨k1, k2⟩ := k_xy hq.1
        rw [if_neg (show ¬ (stC (some q) Z').1 = 1000000000 from fun z => by
          have z : nI q.2 = nI 1000000000 := z
          have := (n_eq (by omega) (by omega)).mp z
          omega), if_pos (show 0 ≤ (stM (some q)).1 by show 0 ≤ nI q.1; rw [i_le, t0, nI_toInt (by omega)]; omega)]
        rcases (show v = 0 ∨ v = 1 ∨ v = 2 by omega) with rfl | rfl | rfl
        · rw [if_pos (show nI 0 = 0 from rfl), if_pos (show nI 0 = 0 from rfl)]
          exact ⟨_, _, rfl, congrArg some k2, hF _⟩
        · rw [if_neg (show ¬ nI 1 = 0 by decide), if_pos (show nI 1 = 1 from rfl), if_neg (show ¬ nI 1 = 0 by decide), if_pos (show nI 1 = 1 from rfl)]
          exact ⟨_, _, rfl, congrArg some k1, hF _⟩
        · rw [if_neg (show ¬ nI 2 = 0 by decide), if_neg (show ¬ nI 2 = 1 by decide), if_neg (show ¬ nI 2 = 0 by decide), if_neg (show ¬ nI 2 = 1 by decide)]
          exact ⟨_, _, rfl, rfl, hF _⟩
    · rw [if_pos hw]
      have hw2 := fun q => hw ((ok_lt (N := 2) (c := 2) w (by decide)).mpr q)
      by_cases h5 : w < 0
      · rw [if_pos h5]
        exact ⟨_, _, rfl, rfl, hR⟩
      · rw [if_neg h5, if_neg (show ¬ w ≤ 2 from fun q => hw2 ⟨h5, q⟩)]
        exact ⟨_, _, rfl, rfl, hR⟩
  · rw [if_pos hd, if_pos hd]
    exact ⟨_, _, rfl, rfl, hR⟩
