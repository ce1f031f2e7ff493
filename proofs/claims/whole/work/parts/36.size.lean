/-! ===== PURE HALF. Cells by a set: what they hold; the reference's counts ===== -/
theorem cntP_eq {O O' : Nat → Int32} {g : Nat} : ∀ {k : Nat}, (∀ p, p < k → O p = O' p) → cntP O g k = cntP O' g k
  | 0, _ => rfl
  | k + 1, h => by rw [cntP, cntP, cntP_eq (fun p hp => h p (by omega)), h k (by omega)]
theorem sumP_eq {O O' L L' : Nat → Int32} {re : Int32} {g : Nat} : ∀ {k : Nat}, (∀ p, p < k → O p = O' p ∧ L p = L' p) → sumP O L re g k = sumP O' L' re g k
  | 0, _ => rfl
  | k + 1, h => by rw [sumP, sumP, sumP_eq (fun p hp => h p (by omega)), (h k (by omega)).1, (h k (by omega)).2]
/-- Cells hold what they should by the set s -/
def CR (S : SceneV) (n s : Nat) (V : CellV) : Prop := V.1 = nI s ∧ (∀ p, p < 256 → V.2.1 p = ownP S n s p) ∧ (∀ g, g < 8 → V.2.2.1 g = cntP (ownP S n s) g 256) ∧ ∀ g, g < 8 → V.2.2.2 g = sumP (ownP S n s) (lefP S n s) (sRe S g) g 256
theorem X0_workOut {S : SceneV} {n s : Nat} (V : CellV) (L : Nat → Int32) (hI : SI S n) (hs : s < 256) : ∃ V' L', f_X0_workOut V S L (nI s) = some (V', L') ∧ CR S n s V' ∧ ∀ p, p < 256 → L' p = lefP S n s p := by
  have h1 := work_8 S ((nI s, V.2.1, V.2.2.1, V.2.2.2) : CellV) L
  have h2 := work_39 ((nI s, V.2.1, V.2.2.1, V.2.2.2) : CellV) L hI hs rfl
  have h3 := work_77 S (upTo 256 (lefP S n s) L) ((nI s, upTo 256 (ownP S n s) V.2.1, V.2.2.1, V.2.2.2) : CellV)
  have h4 := work_109 (s := s) ((nI s, upTo 256 (ownP S n s) V.2.1, upTo 8 (fun _ => 0) V.2.2.1, upTo 8 (fun _ => 0) V.2.2.2) : CellV) (upTo 256 (lefP S n s) L) hI (fun p hp => upTo_lt hp) (fun g hg => (upTo_lt hg : upTo 8 (fun _ => (0 : Int32)) V.2.2.1 g = 0)) (fun g hg => (upTo_lt hg : upTo 8 (fun _ => (0 : Int32)) V.2.2.2 g = 0))
  simp only at h1 h2 h3 h4
  have e : f_X0_workOut V S L (nI s) = some ((nI s, upTo 256 (ownP S n s) V.2.1, upTo 8 (fun g => cntP (upTo 256 (ownP S n s) V.2.1) g 256) (upTo 8 (fun _ => 0) V.2.2.1), upTo 8 (fun g => sumP (upTo 256 (ownP S n s) V.2.1) (upTo 256 (lefP S n s) L) (sRe S g) g 256) (upTo 8 (fun _ => 0) V.2.2.2)), upTo 256 (lefP S n s) L) := by
    unfold f_X0_workOut
    simp only [h1, h2, h3, h4, bd_some]
  refine ⟨_, _, e, ⟨rfl, fun p hp => upTo_lt hp, fun g hg => ?_, fun g hg => ?_⟩, fun p hp => upTo_lt hp⟩
  · dsimp only
    rw [upTo_lt hg]
    exact cntP_eq (fun p hp => upTo_lt hp)
  · dsimp only
    rw [upTo_lt hg]
    exact sumP_eq (fun p hp => ⟨upTo_lt hp, upTo_lt hp⟩)
/-! plots by one number -/
theorem k_xy {k : Nat} (hk : k < 256) : nI k / 16 = nI (k / 16) ∧ nI k - nI k / 16 * 16 = nI (k % 16) := by
  rw [show (16 : Int32) = nI 16 from rfl]
  exact ⟨pk_div (by omega) (by omega) (by omega), pk_rem (by omega) (by omega) (by omega)⟩
theorem X5_isPlot {S : SceneV} {n x y : Nat} {M : ModelV} (hM : MRel S n M) (hx : x < 16) (hy : y < 16) : f_X5_isPlot M (nI x) (nI y) = some (plB S x y) := by
  unfold f_X5_isPlot
  rw [show (15 : Int32) = nI 15 from rfl, X5_in0 _ 15 (by decide)]
  have ho : okP (15 + 1) (nI y) := okP_of (by omega) (by omega)
  simp only [decide_eq_true ho, bd_some, b2i_0, Bool.true_eq_false, reduceIte, gd_t (ix_n hy (by omega : (16 : Nat) ≤ 65536)), cl_n (show y < 65536 by omega), X5_in, (hM.1 y hy).1, (hM.1 y hy).2, ← i_le]
  unfold plB
  by_cases h : S.1 y ≤ nI x ∧ nI x ≤ S.2.1 y
  · simp only [decide_eq_true h, Bool.true_eq_false, reduceIte]
  · simp only [decide_eq_false h, reduceIte]
/-- the reference's 'none' -/
def m6 (c : Int32) : Int32 := if c = -1 then -6 else c
theorem m6_n {g : Nat} (hg : g < 65536) : m6 (nI g) = nI g := by unfold m6; rw [if_neg (n_m1 hg)]
theorem m6_1 : m6 (-1) = -6 := rfl
theorem m6_eq {c : Int32} {g : Nat} (hg : g < 65536) : (m6 c = nI g) ↔ c = nI g := by
  unfold m6
  split
  · rename_i h
    rw [h]
    constructor
    · intro q
      rw [i_eq, nI_toInt (by omega)] at q
      have : (-6 : Int32).toInt = -6 := by decide
      omega
    · intro q; exact absurd q (m1_n hg)
  · rfl
theorem X5_ownerOf' {S : SceneV} {n s x y : Nat} {M : ModelV} (hI : SI S n) (hM : MRel S n M) (hs : s < 256) (hx : x < 16) (hy : y < 16) (hp : plB S x y = true) : f_X5_ownerOf M (nI s) (nI x) (nI y) = some (m6 (ownP S n s (y * 16 + x))) := by
  obtain ⟨e1, e2⟩ := p_xy (y := y) hx
  rw [X5_ownerOf hI hM hs hx hy]
  simp only [m6, ownP, e1, e2, hp, reduceIte]
theorem ownP_k (S : SceneV) (n s k : Nat) : ownP S n s (k / 16 * 16 + k % 16) = ownP S n s k := by rw [Nat.div_add_mod' k 16]
theorem ownP_out {S : SceneV} {n s k : Nat} (h : plB S (k % 16) (k / 16) = false) : ownP S n s k = -1 := by simp only [ownP, h, Bool.false_eq_true, reduceIte]
theorem X5_size {S : SceneV} {n s g : Nat} {M : ModelV} (hI : SI S n) (hM : MRel S n M) (hs : s < 256) (hg : g < 8) : f_X5_size M (nI s) (nI g) = some (cntP (ownP S n s) g 256) := by
  have h := lp_F (body := f_X5_size_L5 M (nI s) (nI g)) (fun i z => (z, nI i)) 256 (cntP (ownP S n s) g) id (fun k hk => by
    obtain ⟨e1, e2⟩ := k_xy hk
    have hx : k % 16 < 16 := by omega
    have hy : k / 16 < 16 := by omega
    unfold f_X5_size_L5
    have c : ¬ (256 : Int32) ≤ nI k := by rw [show (256 : Int32) = nI 256 from rfl, n_le (by omega) (by omega)]; omega
    simp only [if_neg c]
    rw [e2, e1, X5_isPlot hM hx hy]
    simp only [bd_some, b2i_0, nI_1]
    cases hp : plB S (k % 16) (k / 16) with
    | false =>
      simp only [reduceIte, bd_some, cntP, ownP_out hp, if_neg (m1_n (show g < 65536 by omega))]
    | true =>
      rw [X5_ownerOf' hI hM hs hx hy hp, ownP_k]
      simp only [Bool.true_eq_false, reduceIte, bd_some, m6_eq (show g < 65536 by omega), bd_ite, cntP]) (by
    unfold f_X5_size_L5
    have c : (256 : Int32) ≤ nI 256 := by decide
    simp only [if_pos c]; rfl) fu 0 (by omega) (fu_lt (by omega))
  unfold f_X5_size
  rw [show lp (f_X5_size_L5 M (nI s) (nI g)) fu (0, 0) = _ from h]
  rfl
theorem lef_re {S : SceneV} {n s k g : Nat} (hI : SI S n) (hk : k < 256) (hg : g < n) (ho : ownP S n s k = nI g) : lefP S n s k + sRe S g = farS S g (k % 16) (k / 16) := by
  have h8 := hI.1
  rcases own_or (s := s) hI hk with h1 | ⟨g', h1, -, h3, -, h5⟩
  · rw [h1] at ho; exact absurd ho (m1_n (by omega))
  · rw [h3] at ho
    have : g' = g := (n_eq (by omega) (by omega)).mp ho
    subst this
    rw [h5, byS, Int32.sub_add_cancel]
theorem X5_farOf {S : SceneV} {n s g : Nat} {M : ModelV} (hI : SI S n) (hM : MRel S n M) (hs : s < 256) (hg : g < n) : f_X5_farOf M (nI s) (nI g) = some (sumP (ownP S n s) (lefP S n s) (sRe S g) g 256) := by
  have h8 := hI.1
  have h := lp_F (body := f_X5_farOf_L5 M (nI s) (nI g)) (fun i z => (z, nI i)) 256 (sumP (ownP S n s) (lefP S n s) (sRe S g) g) id (fun k hk => by
    obtain ⟨e1, e2⟩ := k_xy hk
    have hx : k % 16 < 16 := by omega
    have hy : k / 16 < 16 := by omega
    unfold f_X5_farOf_L5
    have c : ¬ (256 : Int32) ≤ nI k := by rw [show (256 : Int32) = nI 256 from rfl, n_le (by omega) (by omega)]; omega
    simp only [if_neg c]
    rw [e2, e1, X5_isPlot hM hx hy]
    simp only [bd_some, b2i_0, nI_1]
    cases hp : plB S (k % 16) (k / 16) with
    | false =>
      simp only [reduceIte, bd_some, sumP, ownP_out hp, if_neg (m1_n (show g < 65536 by omega))]
    | true =>
      rw [X5_ownerOf' hI hM hs hx hy hp, ownP_k]
      simp only [Bool.true_eq_false, reduceIte, bd_some, m6_eq (show g < 65536 by omega), X5_far hI hM hg, sumP]
      by_cases ho : ownP S n s k = nI g
      · simp only [if_pos ho, bd_some, lef_re hI hk hg ho]
      · simp only [if_neg ho, bd_some]) (by
    unfold f_X5_farOf_L5
    have c : (256 : Int32) ≤ nI 256 := by decide
    simp only [if_pos c]; rfl) fu 0 (by omega) (fu_lt (by omega))
  unfold f_X5_farOf
  rw [show lp (f_X5_farOf_L5 M (nI s) (nI g)) fu (0, 0) = _ from h]
  rfl
