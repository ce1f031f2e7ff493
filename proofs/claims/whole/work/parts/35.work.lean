/-! ===== PURE HALF. claim whole, workOut ===== -/
theorem SI_row {S : SceneV} {n y : Nat} (hI : SI S n) (hy : y < 16) : ∃ f t, f < 16 ∧ t < 16 ∧ S.1 y = nI f ∧ S.2.1 y = nI t := by
  obtain ⟨h1, h2⟩ := hI.2.2.1 y hy
  obtain ⟨f, hf, e1⟩ := okP_n h1 (by omega)
  obtain ⟨t, ht, e2⟩ := okP_n h2 (by omega)
  exact ⟨f, t, hf, ht, e1, e2⟩
theorem dY_0 (S : SceneV) (g : Nat) (O L : Nat → Int32) : clO S g O L (dY S 0) = O ∧ clL S g L (dY S 0) = L := by
  constructor <;> funext p <;> simp [clO, clL, dY]
theorem X0_claim {S : SceneV} {n g : Nat} (V : CellV) (L : Nat → Int32) (hI : SI S n) (hg : g < n) : f_X0_claim V S L (nI g) = some ((V.1, clO S g V.2.1 L (dY S 16), V.2.2.1, V.2.2.2), clL S g L (dY S 16)) := by
  have h8 := hI.1
  have h := lp_F (body := f_X0_claim_L11 S (nI g) (sPx S g)) (fun i (z : CellV × (Nat → Int32)) => (nI i, z.1, z.2)) 16 (fun i => ((V.1, clO S g V.2.1 L (dY S i), V.2.2.1, V.2.2.2), clL S g L (dY S i))) id (fun i hi => by
    obtain ⟨f, t, hf16, ht16, hf, ht⟩ := SI_row hI hi
    unfold f_X0_claim_L11
    have c : ¬ (16 : Int32) ≤ nI i := by rw [show (16 : Int32) = nI 16 from rfl, n_le (by omega) (by omega)]; omega
    simp only [if_neg c, gd_t (ix_n (show g < 8 by omega) (by omega : (8 : Nat) ≤ 65536)), gd_t (ix_n hi (by omega : (16 : Nat) ≤ 65536)), cl_n (show i < 65536 by omega), cl_n (show g < 65536 by omega), nI_1]
    rw [hf, ht]
    have q := X0_claim_in (V := V) (L := L) hI hg hi hf ht hf16 ht16
    rw [q]
    rfl) (by
    unfold f_X0_claim_L11
    have c : (16 : Int32) ≤ nI 16 := by decide
    simp only [if_pos c]; rfl) fu 0 (by omega) (fu_lt (by omega))
  simp only [(dY_0 S g V.2.1 L).1, (dY_0 S g V.2.1 L).2] at h
  unfold f_X0_claim
  rw [gd_t (ix_n (show g < 8 by omega) (by omega)), cl_n (by omega)]
  rw [show lp (f_X0_claim_L11 S (nI g) (sPx S g)) fu (0, V, L) = _ from h]
  rfl
/-- who has plot p by set s (nobody: -1), and what is left there -/
def ownP (S : SceneV) (n s p : Nat) : Int32 := if plB S (p % 16) (p / 16) = true then (ow S s (p % 16) (p / 16) n).1 else -1
def lefP (S : SceneV) (n s p : Nat) : Int32 := if plB S (p % 16) (p / 16) = true then (ow S s (p % 16) (p / 16) n).2 else 1000000000
/-- below 256 by F, else as it was -/
def upTo (k : Nat) (F O : Nat → Int32) : Nat → Int32 := fun p => if p < k then F p else O p
theorem upTo_0 (F O : Nat → Int32) : upTo 0 F O = O := by funext p; simp [upTo]
theorem upTo_s (k : Nat) (F O : Nat → Int32) : upd (upTo k F O) k (F k) = upTo (k + 1) F O := by
  funext p
  by_cases h : p = k
  · subst h; rw [pk_us]; simp [upTo]
  · rw [pk_un h]
    have : (p < k + 1) ↔ p < k := by omega
    simp [upTo, this]
theorem upTo_lt {k p : Nat} {F O : Nat → Int32} (h : p < k) : upTo k F O p = F p := by simp [upTo, h]
theorem upTo_ge {k p : Nat} {F O : Nat → Int32} (h : k ≤ p) : upTo k F O p = O p := by have : ¬ p < k := by omega
                                                                                       simp [upTo, this]
theorem work_8 (S : SceneV) (V : CellV) (L : Nat → Int32) : lp (f_X0_workOut_L8 S) fu (0, V, L) = some ((V.1, upTo 256 (fun _ => -1) V.2.1, V.2.2.1, V.2.2.2), upTo 256 (fun _ => 1000000000) L) := by
  have h := lp_F (body := f_X0_workOut_L8 S) (fun i (z : CellV × (Nat → Int32)) => (nI i, z.1, z.2)) 256 (fun i => ((V.1, upTo i (fun _ => -1) V.2.1, V.2.2.1, V.2.2.2), upTo i (fun _ => 1000000000) L)) id (fun i hi => by
    unfold f_X0_workOut_L8
    have c : ¬ (256 : Int32) ≤ nI i := by rw [show (256 : Int32) = nI 256 from rfl, n_le (by omega) (by omega)]; omega
    simp only [if_neg c, gd_t (ix_n hi (by omega : (256 : Nat) ≤ 65536)), cl_n (show i < 65536 by omega), nI_1, upTo_s i (fun _ => (-1 : Int32)), upTo_s i (fun _ => (1000000000 : Int32))]) (by
    unfold f_X0_workOut_L8
    have c : (256 : Int32) ≤ nI 256 := by decide
    simp only [if_pos c]; rfl) fu 0 (by omega) (fu_lt (by omega))
  simp only [upTo_0] at h
  exact h
theorem ownP_s {S : SceneV} {g s : Nat} {L : Nat → Int32} (hb : s.testBit g = true) (O : Nat → Int32) : clO S g (upTo 256 (ownP S g s) O) (upTo 256 (lefP S g s) L) (dY S 16) = upTo 256 (ownP S (g + 1) s) O := by
  funext p
  by_cases hp : p < 256
  · have h16 : p / 16 < 16 := by omega
    rw [clO, upTo_lt hp, upTo_lt hp, upTo_lt hp]
    by_cases hq : plB S (p % 16) (p / 16) = true
    · simp only [dY, h16, hq, true_and, decide_true, ownP, lefP, ow, hb, Bool.and_self, reduceIte]
      split <;> rfl
    · simp only [dY, eq_false_of_ne_true hq, Bool.and_false, Bool.false_eq_true, false_and, reduceIte, ownP]
  · have h16 : ¬ p / 16 < 16 := by omega
    rw [clO, upTo_ge (show 256 ≤ p by omega), upTo_ge (show 256 ≤ p by omega), upTo_ge (show 256 ≤ p by omega)]
    simp only [dY, h16, Bool.false_and, false_and, decide_false, Bool.false_eq_true, reduceIte]
theorem lefP_s {S : SceneV} {g s : Nat} (hb : s.testBit g = true) (L : Nat → Int32) : clL S g (upTo 256 (lefP S g s) L) (dY S 16) = upTo 256 (lefP S (g + 1) s) L := by
  funext p
  by_cases hp : p < 256
  · have h16 : p / 16 < 16 := by omega
    rw [clL, upTo_lt hp, upTo_lt hp]
    by_cases hq : plB S (p % 16) (p / 16) = true
    · simp only [dY, h16, hq, true_and, decide_true, lefP, ow, hb, Bool.and_self, reduceIte]
      split <;> rfl
    · simp only [dY, eq_false_of_ne_true hq, Bool.and_false, Bool.false_eq_true, false_and, reduceIte, lefP]
  · have h16 : ¬ p / 16 < 16 := by omega
    rw [clL, upTo_ge (show 256 ≤ p by omega), upTo_ge (show 256 ≤ p by omega)]
    simp only [dY, h16, Bool.false_and, false_and, decide_false, Bool.false_eq_true, reduceIte]
theorem own_n {S : SceneV} {g s : Nat} (hb : s.testBit g = false) : ownP S (g + 1) s = ownP S g s ∧ lefP S (g + 1) s = lefP S g s := by
  constructor <;> funext p <;> simp only [ownP, lefP, ow, hb, Bool.false_eq_true, false_and, if_false]
theorem work_39 {S : SceneV} {n s : Nat} (V : CellV) (L : Nat → Int32) (hI : SI S n) (hs : s < 256) (hV : V.1 = nI s) : lp (f_X0_workOut_L39 S) fu (0, (V.1, upTo 256 (fun _ => -1) V.2.1, V.2.2.1, V.2.2.2), upTo 256 (fun _ => 1000000000) L) = some ((V.1, upTo 256 (ownP S n s) V.2.1, V.2.2.1, V.2.2.2), upTo 256 (lefP S n s) L) := by
  have h8 := hI.1
  have e0 : ownP S 0 s = (fun _ => -1) ∧ lefP S 0 s = (fun _ => 1000000000) := by
    constructor <;> funext p <;> simp [ownP, lefP, ow]
  have h := lp_F (body := f_X0_workOut_L39 S) (fun i (z : CellV × (Nat → Int32)) => (nI i, z.1, z.2)) n (fun i => ((V.1, upTo 256 (ownP S i s) V.2.1, V.2.2.1, V.2.2.2), upTo 256 (lefP S i s) L)) id (fun i hi => by
    unfold f_X0_workOut_L39
    have c : ¬ S.2.2.1 ≤ nI i := by rw [hI.2.1, n_le (by omega) (by omega)]; omega
    simp only [if_neg c, hV, X4_isIn hs (show i < 8 by omega), bd_some, b2i_0, nI_1]
    by_cases hb : s.testBit i = false
    · rw [if_pos hb, (own_n hb).1, (own_n hb).2]; rfl
    · have hb' : s.testBit i = true := eq_true_of_ne_false hb
      rw [if_neg hb, X0_claim _ _ hI hi]
      simp only [bd_some, ownP_s hb', lefP_s hb']) (by
    unfold f_X0_workOut_L39
    have c : S.2.2.1 ≤ nI n := by rw [hI.2.1, n_le (by omega) (by omega)]; omega
    simp only [if_pos c]; rfl) fu 0 (by omega) (fu_lt (by omega))
  simp only [e0.1, e0.2] at h
  exact h
theorem work_77 (S : SceneV) (L : Nat → Int32) (V : CellV) : lp (f_X0_workOut_L77 S L) fu (0, V) = some (V.1, V.2.1, upTo 8 (fun _ => 0) V.2.2.1, upTo 8 (fun _ => 0) V.2.2.2) := by
  have h := lp_F (body := f_X0_workOut_L77 S L) (fun i (z : CellV) => (nI i, z)) 8 (fun i => (V.1, V.2.1, upTo i (fun _ => 0) V.2.2.1, upTo i (fun _ => 0) V.2.2.2)) id (fun i hi => by
    unfold f_X0_workOut_L77
    have c : ¬ (8 : Int32) ≤ nI i := by rw [show (8 : Int32) = nI 8 from rfl, n_le (by omega) (by omega)]; omega
    simp only [if_neg c, gd_t (ix_n hi (by omega : (8 : Nat) ≤ 65536)), cl_n (show i < 65536 by omega), nI_1, upTo_s i (fun _ => (0 : Int32))]) (by
    unfold f_X0_workOut_L77
    have c : (8 : Int32) ≤ nI 8 := by decide
    simp only [if_pos c]; rfl) fu 0 (by omega) (fu_lt (by omega))
  simp only [upTo_0] at h
  exact h
/-- how many of the first k plots g has; how far they are, added -/
def cntP (O : Nat → Int32) (g : Nat) : Nat → Int32
  | 0 => 0
  | k + 1 => cntP O g k + (if O k = nI g then 1 else 0)
def sumP (O L : Nat → Int32) (re : Int32) (g : Nat) : Nat → Int32
  | 0 => 0
  | k + 1 => sumP O L re g k + (if O k = nI g then L k + re else 0)
theorem own_or {S : SceneV} {n s p : Nat} (hI : SI S n) (hp : p < 256) : ownP S n s p = -1 ∨ ∃ g, g < n ∧ s.testBit g = true ∧ ownP S n s p = nI g ∧ plB S (p % 16) (p / 16) = true ∧ lefP S n s p = byS S g (p % 16) (p / 16) := by
  by_cases hq : plB S (p % 16) (p / 16) = true
  · rcases ow_some (s := s) hI (Nat.le_refl n) (show p % 16 < 16 by omega) (show p / 16 < 16 by omega) with ⟨h1, -⟩ | ⟨g, h1, h2, h3⟩
    · left; simp only [ownP, if_pos hq, h1]
    · right; exact ⟨g, h1, h2, by simp only [ownP, if_pos hq, h3], hq, by simp only [lefP, if_pos hq, h3]⟩
  · left; simp only [ownP, if_neg hq]
theorem m1_n {g : Nat} (hg : g < 65536) : ¬ (-1 : Int32) = nI g := by
  rw [i_eq, nI_toInt (by omega)]
  show ¬ (-1 : Int) = _
  omega
theorem n_m1 {g : Nat} (hg : g < 65536) : ¬ nI g = (-1 : Int32) := fun q => m1_n hg q.symm
theorem work_109 {S : SceneV} {n s : Nat} (V : CellV) (L : Nat → Int32) (hI : SI S n) (hO : ∀ p, p < 256 → V.2.1 p = ownP S n s p) (hp : ∀ g, g < 8 → V.2.2.1 g = 0) (hf : ∀ g, g < 8 → V.2.2.2 g = 0) : lp (f_X0_workOut_L109 S L) fu (0, V) = some (V.1, V.2.1, upTo 8 (fun g => cntP V.2.1 g 256) V.2.2.1, upTo 8 (fun g => sumP V.2.1 L (sRe S g) g 256) V.2.2.2) := by
  have h8 := hI.1
  have h := lp_F (body := f_X0_workOut_L109 S L) (fun i (z : CellV) => (nI i, z)) 256 (fun i => (V.1, V.2.1, upTo 8 (fun g => cntP V.2.1 g i) V.2.2.1, upTo 8 (fun g => sumP V.2.1 L (sRe S g) g i) V.2.2.2)) id (fun i hi => by
    unfold f_X0_workOut_L109
    have c : ¬ (256 : Int32) ≤ nI i := by rw [show (256 : Int32) = nI 256 from rfl, n_le (by omega) (by omega)]; omega
    simp only [if_neg c, gd_t (ix_n hi (by omega : (256 : Nat) ≤ 65536)), cl_n (show i < 65536 by omega), nI_1]
    rcases own_or (s := s) hI hi with h1 | ⟨g, h1, -, h3, -⟩
    · have e1 : V.2.1 i = -1 := by rw [hO i hi, h1]
      have q1 : upTo 8 (fun g => cntP V.2.1 g (i + 1)) V.2.2.1 = upTo 8 (fun g => cntP V.2.1 g i) V.2.2.1 := by
        funext g
        by_cases hg : g < 8
        · rw [upTo_lt hg, upTo_lt hg, cntP, e1, if_neg (m1_n (by omega)), Int32.add_zero]
        · rw [upTo_ge (by omega), upTo_ge (by omega)]
      have q2 : upTo 8 (fun g => sumP V.2.1 L (sRe S g) g (i + 1)) V.2.2.2 = upTo 8 (fun g => sumP V.2.1 L (sRe S g) g i) V.2.2.2 := by
        funext g
        by_cases hg : g < 8
        · rw [upTo_lt hg, upTo_lt hg, sumP, e1, if_neg (m1_n (by omega)), Int32.add_zero]
        · rw [upTo_ge (by omega), upTo_ge (by omega)]
      rw [if_pos e1, q1, q2]; rfl
    · have e1 : V.2.1 i = nI g := by rw [hO i hi, h3]
      have hg8 : g < 8 := by omega
      simp only [e1, if_neg (n_m1 (show g < 65536 by omega)), gd_t (ix_n hg8 (by omega : (8 : Nat) ≤ 65536)), cl_n (show g < 65536 by omega), bd_some, upTo_lt hg8]
      have q1 : upd (upTo 8 (fun g => cntP V.2.1 g i) V.2.2.1) g (cntP V.2.1 g i + 1) = upTo 8 (fun g => cntP V.2.1 g (i + 1)) V.2.2.1 := by
        funext j
        by_cases hj : j = g
        · subst hj; rw [pk_us, upTo_lt hg8, cntP, e1, if_pos rfl]
        · rw [pk_un hj]
          by_cases hj8 : j < 8
          · rw [upTo_lt hj8, upTo_lt hj8, cntP, e1, if_neg (fun q => hj ((n_eq (by omega) (by omega)).mp q).symm), Int32.add_zero]
          · rw [upTo_ge (by omega), upTo_ge (by omega)]
      have q2 : upd (upTo 8 (fun g => sumP V.2.1 L (sRe S g) g i) V.2.2.2) g (sumP V.2.1 L (sRe S g) g i + (L i + sRe S g)) = upTo 8 (fun g => sumP V.2.1 L (sRe S g) g (i + 1)) V.2.2.2 := by
        funext j
        by_cases hj : j = g
        · subst hj; rw [pk_us, upTo_lt hg8, sumP, e1, if_pos rfl]
        · rw [pk_un hj]
          by_cases hj8 : j < 8
          · rw [upTo_lt hj8, upTo_lt hj8, sumP, e1, if_neg (fun q => hj ((n_eq (by omega) (by omega)).mp q).symm), Int32.add_zero]
          · rw [upTo_ge (by omega), upTo_ge (by omega)]
      rw [q1, q2]) (by
    unfold f_X0_workOut_L109
    have c : (256 : Int32) ≤ nI 256 := by decide
    simp only [if_pos c]; rfl) fu 0 (by omega) (fu_lt (by omega))
  have z1 : upTo 8 (fun g => cntP V.2.1 g 0) V.2.2.1 = V.2.2.1 := by
    funext g
    by_cases hg : g < 8
    · rw [upTo_lt hg, hp g hg]; rfl
    · rw [upTo_ge (by omega)]
  have z2 : upTo 8 (fun g => sumP V.2.1 L (sRe S g) g 0) V.2.2.2 = V.2.2.2 := by
    funext g
    by_cases hg : g < 8
    · rw [upTo_lt hg, hf g hg]; rfl
    · rw [upTo_ge (by omega)]
  simp only [z1, z2] at h
  exact h
