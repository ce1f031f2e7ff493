/-! ===== PURE HALF. the store of the class and the list of the reference ===== -/
/-- where the i-th of the moved list stood -/
def rr (j c i : Nat) : Nat := if i = c then j else if j ≤ i ∧ i < c then i + 1 else i
theorem rr_v (f : Nat → Nat) (j c : Nat) : va_up (shp f j c) c (f j) = fun i => f (rr j c i) := by
  funext i
  show (if i = c then f j else shp f j c i) = f (rr j c i)
  unfold rr shp
  by_cases h : i = c
  · rw [if_pos h, if_pos h]
  · rw [if_neg h, if_neg h]
    by_cases q : j ≤ i ∧ i < c
    · rw [if_pos q, if_pos q]
    · rw [if_neg q, if_neg q]
theorem rr_u (f : Nat → Int32) (j c : Nat) {y : Int32} (hy : f j = y) : upd (shp f j c) c y = fun i => f (rr j c i) := by
  funext i
  show (if i = c then y else shp f j c i) = f (rr j c i)
  unfold rr shp
  by_cases h : i = c
  · rw [if_pos h, if_pos h, hy]
  · rw [if_neg h, if_neg h]
    by_cases q : j ≤ i ∧ i < c
    · rw [if_pos q, if_pos q]
    · rw [if_neg q, if_neg q]
theorem rr_inj {j c i k : Nat} (h : j ≤ c) (e : rr j c i = rr j c k) : i = k := by
  unfold rr at e
  repeat' split at e
  all_goals omega
theorem rr_lt {j c i m : Nat} (h : j ≤ c) (hc : c < m) (hi : i < m) : rr j c i < m := by
  unfold rr
  repeat' split
  all_goals omega
theorem rr_c (j c : Nat) : rr j c c = j := if_pos rfl
/-- the class's store holds what the reference's list says -/
def SR (S : SceneV) (n : Nat) (T : StoreV) (M : ModelV) : Prop :=
  ∃ c, c ≤ 6 ∧ T.2.1 = nI c ∧ mKept M = nI c ∧ T.2.2.1 = M.2.2.2.2.2.2.2.2.2.2.1 ∧ T.2.2.2.1 = M.2.2.2.2.2.2.2.2.2.2.2.1 ∧ T.2.2.2.2.1 = M.2.2.2.2.2.2.2.2.2.2.2.2.1 ∧ (∀ i, i < 6 → 1 ≤ T.1 i ∧ T.1 i < 7) ∧ (∀ i j, i < 6 → j < 6 → T.1 i = T.1 j → i = j) ∧ (∀ i, i < c → tSet T i = mSets M i) ∧ (∀ i j, i < c → j < c → tSet T i = tSet T j → i = j) ∧ (∀ i, i < c → ∃ s, 0 < s ∧ s < 256 ∧ CR S n s (T.2.2.2.2.2.2 (T.1 i))) ∧ EC (T.2.2.2.2.2.2 0)
/-- a hit keeps it -/
theorem SR_hit {S : SceneV} {n : Nat} {T : StoreV} {M : ModelV} {c j : Nat} {y : Int32} (hc : c < 6) (hj : j ≤ c) (hT : T.2.1 = nI (c + 1)) (hy : mSets M j = y) (h : SR S n T M) : SR S n (va_up (shp T.1 j c) c (T.1 j), T.2.1, T.2.2.1 + 1, T.2.2.2) (M.1, M.2.1, M.2.2.1, M.2.2.2.1, M.2.2.2.2.1, M.2.2.2.2.2.1, M.2.2.2.2.2.2.1, M.2.2.2.2.2.2.2.1, upd (shp (mSets M) j c) c y, M.2.2.2.2.2.2.2.2.2.1, M.2.2.2.2.2.2.2.2.2.2.1 + 1, M.2.2.2.2.2.2.2.2.2.2.2) := by
  obtain ⟨c', h1, h2, h3, h4, h5, h6, h7, h8, h9, h10, h11, h12⟩ := h
  have e : c' = c + 1 := (n_eq (by omega) (by omega)).mp (h2.symm.trans hT)
  subst e
  rw [rr_v, rr_u (mSets M) j c hy]
  exact ⟨c + 1, h1, h2, h3, congrArg (· + 1) h4, h5, h6, fun i hi => h7 _ (rr_lt hj hc hi), fun i k hi hk q => rr_inj hj (h8 _ _ (rr_lt hj hc hi) (rr_lt hj hc hk) q), fun i hi => h9 _ (rr_lt hj (by omega) hi), fun i k hi hk q => rr_inj hj (h10 _ _ (rr_lt hj (by omega) hi) (rr_lt hj (by omega) hk) q), fun i hi => h11 _ (rr_lt hj (by omega) hi), h12⟩
