/-! ===== PURE HALF. the store: no gauge works; one goes last ===== -/
theorem ow_0 (S : SceneV) (x y : Nat) : ∀ n, ow S 0 x y n = (-1, 1000000000)
  | 0 => rfl
  | n + 1 => by
    rw [ow, if_neg (fun q => by have := q.1; rw [Nat.zero_testBit] at this; cases this), ow_0 S x y n]
theorem ownP_0 (S : SceneV) (n p : Nat) : ownP S n 0 p = -1 := by
  unfold ownP
  split
  · rw [ow_0]
  · rfl
theorem cntP_m1 {O : Nat → Int32} (hO : ∀ p, O p = -1) {g : Nat} (hg : g < 8) : ∀ k, cntP O g k = 0
  | 0 => rfl
  | k + 1 => by rw [cntP, cntP_m1 hO hg k, hO k, if_neg (m1_n (by omega))]; rfl
theorem sumP_m1 {O L : Nat → Int32} {re : Int32} (hO : ∀ p, O p = -1) {g : Nat} (hg : g < 8) : ∀ k, sumP O L re g k = 0
  | 0 => rfl
  | k + 1 => by rw [sumP, sumP_m1 hO hg k, hO k, if_neg (m1_n (by omega))]; rfl
/-- cells that nobody owns -/
def EC (V : CellV) : Prop := V.1 = 0 ∧ (∀ p, p < 256 → V.2.1 p = -1) ∧ ∀ g, g < 8 → V.2.2.1 g = 0 ∧ V.2.2.2 g = 0
theorem EC_CR {V : CellV} (h : EC V) (S : SceneV) (n : Nat) : CR S n 0 V :=
  ⟨h.1, fun p hp => by rw [h.2.1 p hp, ownP_0], fun g hg => by rw [(h.2.2 g hg).1, cntP_m1 (ownP_0 S n) hg], fun g hg => by rw [(h.2.2 g hg).2, sumP_m1 (ownP_0 S n) hg]⟩
theorem iC_EC : EC iC := ⟨rfl, fun p hp => upTo_lt (k := 256) (F := fun _ => (-1 : Int32)) (O := ZI) hp, fun g _ => ⟨rfl, rfl⟩⟩
/-- all from j on move one down, up to k -/
def shp {α : Type} (f : Nat → α) (j k : Nat) : Nat → α := fun i => if j ≤ i ∧ i < k then f (i + 1) else f i
theorem shp_0 {α : Type} (f : Nat → α) (j : Nat) : shp f j j = f := by
  funext i
  unfold shp
  rw [if_neg (by omega)]
theorem shp_at {α : Type} (f : Nat → α) {j k : Nat} : shp f j k (k + 1) = f (k + 1) := if_neg (by omega)
theorem shp_i {α : Type} (f g : Nat → α) {j k : Nat} (h : j ≤ k) (hg : ∀ i, g i = if i = k then f (k + 1) else shp f j k i) : g = shp f j (k + 1) := by
  funext i
  rw [hg i]
  by_cases e : i = k
  · subst e
    rw [if_pos rfl]
    unfold shp
    rw [if_pos (by omega)]
  · rw [if_neg e]
    unfold shp
    by_cases q : j ≤ i ∧ i < k
    · rw [if_pos q, if_pos (by omega)]
    · rw [if_neg q, if_neg (by omega)]
theorem shp_v (f : Nat → Nat) {j k : Nat} (h : j ≤ k) : va_up (shp f j k) k (f (k + 1)) = shp f j (k + 1) := shp_i f _ h (fun i => rfl)
theorem shp_u (f : Nat → Int32) {j k : Nat} (h : j ≤ k) : upd (shp f j k) k (f (k + 1)) = shp f j (k + 1) := shp_i f _ h (fun i => rfl)
theorem n_pred (c : Nat) : nI (c + 1) - 1 = nI c := by
  rw [← nI_1]
  exact Int32.add_sub_cancel _ _
theorem X3_putLast {T : StoreV} {j c : Nat} (hc : c < 6) (hj : j ≤ c) (hT : T.2.1 = nI (c + 1)) (hp : ∀ i, i < 6 → T.1 i < 7) : f_X3_putLast T (nI j) = some (T.1 j, (va_up (shp T.1 j c) c (T.1 j), T.2)) := by
  have h := lp_G (body := f_X3_putLast_L9 (T.1 j)) (fun i (s : StoreV) => (nI i, s)) j c (fun i => ((shp T.1 j i, T.2) : StoreV)) id (fun i h0 hi => by
    unfold f_X3_putLast_L9
    have e : ¬ (T.2.1 - 1 ≤ nI i) := by rw [hT, n_pred, n_le (by omega) (by omega)]; omega
    have q : T.1 (i + 1) < 7 := hp (i + 1) (by omega)
    simp only [if_neg e, nI_1, gd_t (ix_n (show i + 1 < 6 by omega) (by omega : (6 : Nat) ≤ 65536)), gd_t (ix_n (show i < 6 by omega) (by omega : (6 : Nat) ≤ 65536)), cl_n (show i < 65536 by omega), cl_n (show i + 1 < 65536 by omega), gd_t (decide_eq_true q), shp_at, shp_v _ h0]) (by
    unfold f_X3_putLast_L9
    have e : (T.2.1 - 1 ≤ nI c) := by rw [hT, n_pred, n_le (by omega) (by omega)]; omega
    simp only [if_pos e]; rfl) fu j (Nat.le_refl j) hj (fu_lt (by omega))
  rw [shp_0] at h
  unfold f_X3_putLast
  rw [gd_t (ix_n (show j < 6 by omega) (by omega)), cl_n (show j < 65536 by omega), gd_t (decide_eq_true (hp j (by omega)))]
  rw [show lp (f_X3_putLast_L9 (T.1 j)) fu (nI j, T) = some (shp T.1 j c, T.2) from h, bd_some]
  simp only [hT, n_pred, gd_t (ix_n hc (by omega : (6 : Nat) ≤ 65536)), cl_n (show c < 65536 by omega)]
/-! the reference's list moves the same way -/
abbrev mSets (M : ModelV) : Nat → Int32 := M.2.2.2.2.2.2.2.2.1
abbrev mKept (M : ModelV) : Int32 := M.2.2.2.2.2.2.2.2.2.1
abbrev mWith (M : ModelV) (sets : Nat → Int32) : ModelV := (M.1, M.2.1, M.2.2.1, M.2.2.2.1, M.2.2.2.2.1, M.2.2.2.2.2.1, M.2.2.2.2.2.2.1, M.2.2.2.2.2.2.2.1, sets, M.2.2.2.2.2.2.2.2.2)
theorem X5_shift {M : ModelV} {j c : Nat} (y : Int32) (hc : c < 6) (hj : j ≤ c) (hM : mKept M = nI (c + 1)) : lp (f_X5_lookUp_L149 y) fu (nI j, M) = some (mWith M (shp (mSets M) j c)) := by
  have h := lp_G (body := f_X5_lookUp_L149 y) (fun i (s : ModelV) => (nI i, s)) j c (fun i => mWith M (shp (mSets M) j i)) id (fun i h0 hi => by
    unfold f_X5_lookUp_L149
    have e : ¬ (M.2.2.2.2.2.2.2.2.2.1 - 1 ≤ nI i) := by rw [show M.2.2.2.2.2.2.2.2.2.1 = nI (c + 1) from hM, n_pred, n_le (by omega) (by omega)]; omega
    simp only [if_neg e, nI_1, gd_t (ix_n (show i + 1 < 6 by omega) (by omega : (6 : Nat) ≤ 65536)), gd_t (ix_n (show i < 6 by omega) (by omega : (6 : Nat) ≤ 65536)), cl_n (show i < 65536 by omega), cl_n (show i + 1 < 65536 by omega), shp_at, shp_u _ h0]) (by
    unfold f_X5_lookUp_L149
    have e : (M.2.2.2.2.2.2.2.2.2.1 - 1 ≤ nI c) := by rw [show M.2.2.2.2.2.2.2.2.2.1 = nI (c + 1) from hM, n_pred, n_le (by omega) (by omega)]; omega
    simp only [if_pos e]; rfl) fu j (Nat.le_refl j) hj (fu_lt (by omega))
  rw [shp_0] at h
  exact h
