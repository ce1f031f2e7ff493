/-! ===== PURE HALF. a miss keeps the store's rule ===== -/
theorem SR_free {S : SceneV} {n s c : Nat} {T : StoreV} {M : ModelV} {V' : CellV} {L' : Nat → Int32} (hs : s < 256) (h0 : 0 < s) (hc : c < 6) (hT : T.2.1 = nI c) (hf : fnd (tSet T) (nI s) c = none) (hV : CR S n s V') (h : SR S n T M) : SR S n (T.1, nI (c + 1), T.2.2.1, T.2.2.2.1 + 1, T.2.2.2.2.1, L', va_up T.2.2.2.2.2.2 (T.1 c) V') (M.1, M.2.1, M.2.2.1, M.2.2.2.1, M.2.2.2.2.1, M.2.2.2.2.2.1, M.2.2.2.2.2.2.1, M.2.2.2.2.2.2.2.1, upd (mSets M) c (nI s), nI (c + 1), M.2.2.2.2.2.2.2.2.2.2.1, M.2.2.2.2.2.2.2.2.2.2.2.1 + 1, M.2.2.2.2.2.2.2.2.2.2.2.2.1 + 0, M.2.2.2.2.2.2.2.2.2.2.2.2.2) := by
  obtain ⟨c', h1, h2, h3, h4, h5, h6, h7, h8, h9, h10, h11, h12⟩ := h
  have e : c' = c := (n_eq (by omega) (by omega)).mp (h2.symm.trans hT)
  subst e
  have no := fnd_none hf
  have cs : va_up T.2.2.2.2.2.2 (T.1 c') V' (T.1 c') = V' := if_pos rfl
  have co : ∀ i, i < c' → va_up T.2.2.2.2.2.2 (T.1 c') V' (T.1 i) = T.2.2.2.2.2.2 (T.1 i) := fun i hi => if_neg (fun q => absurd (h8 i c' (by omega) hc q) (by omega))
  have sl : ∀ i, i < c' → (va_up T.2.2.2.2.2.2 (T.1 c') V' (T.1 i)).1 = tSet T i := fun i hi => by rw [co i hi]
  have ss : (va_up T.2.2.2.2.2.2 (T.1 c') V' (T.1 c')).1 = nI s := by rw [cs]; exact hV.1
  refine ⟨c' + 1, by omega, rfl, rfl, h4, congrArg (· + 1) h5, ?_, h7, h8, ?_, ?_, ?_, ?_⟩
  · show T.2.2.2.2.1 = _
    rw [h6]; exact (Int32.add_zero _).symm
  · intro i hi
    show (va_up T.2.2.2.2.2.2 (T.1 c') V' (T.1 i)).1 = upd (mSets M) c' (nI s) i
    by_cases q : i = c'
    · subst q; rw [ss, pk_us]
    · rw [sl i (by omega), pk_un q, h9 i (by omega)]
  · intro i k hi hk
    show (va_up T.2.2.2.2.2.2 (T.1 c') V' (T.1 i)).1 = (va_up T.2.2.2.2.2.2 (T.1 c') V' (T.1 k)).1 → i = k
    intro q
    by_cases q1 : i = c'
    · by_cases q2 : k = c'
      · omega
      · subst q1; rw [ss, sl k (by omega)] at q; exact absurd q.symm (no k (by omega))
    · by_cases q2 : k = c'
      · subst q2; rw [ss, sl i (by omega)] at q; exact absurd q (no i (by omega))
      · rw [sl i (by omega), sl k (by omega)] at q; exact h10 i k (by omega) (by omega) q
  · intro i hi
    show ∃ s, 0 < s ∧ s < 256 ∧ CR S n s (va_up T.2.2.2.2.2.2 (T.1 c') V' (T.1 i))
    by_cases q : i = c'
    · subst q; rw [cs]; exact ⟨s, h0, hs, hV⟩
    · rw [co i (by omega)]; exact h11 i (by omega)
  · show EC (va_up T.2.2.2.2.2.2 (T.1 c') V' 0)
    rw [show va_up T.2.2.2.2.2.2 (T.1 c') V' 0 = T.2.2.2.2.2.2 0 from if_neg (fun q => by have := (h7 c' hc).1; omega)]
    exact h12
theorem SR_full {S : SceneV} {n s : Nat} {T : StoreV} {M : ModelV} {V' : CellV} {L' : Nat → Int32} (hs : s < 256) (h0 : 0 < s) (hT : T.2.1 = nI 6) (hf : fnd (tSet T) (nI s) 6 = none) (hV : CR S n s V') (h : SR S n T M) : SR S n (va_up (shp T.1 0 5) 5 (T.1 0), T.2.1, T.2.2.1, T.2.2.2.1 + 1, T.2.2.2.2.1 + 1, L', va_up T.2.2.2.2.2.2 (T.1 0) V') (M.1, M.2.1, M.2.2.1, M.2.2.2.1, M.2.2.2.2.1, M.2.2.2.2.2.1, M.2.2.2.2.2.2.1, M.2.2.2.2.2.2.2.1, upd (shp (mSets M) 0 5) 5 (nI s), M.2.2.2.2.2.2.2.2.2.1, M.2.2.2.2.2.2.2.2.2.2.1, M.2.2.2.2.2.2.2.2.2.2.2.1 + 1, M.2.2.2.2.2.2.2.2.2.2.2.2.1 + 1, M.2.2.2.2.2.2.2.2.2.2.2.2.2) := by
  obtain ⟨c', h1, h2, h3, h4, h5, h6, h7, h8, h9, h10, h11, h12⟩ := h
  have e : c' = 6 := (n_eq (by omega) (by omega)).mp (h2.symm.trans hT)
  subst e
  have no := fnd_none hf
  have rl : ∀ {i}, i < 6 → rr 0 5 i < 6 := fun hi => rr_lt (by omega) (by omega) hi
  have r5 : rr 0 5 5 = 0 := rr_c 0 5
  have r0 : ∀ {i}, i < 6 → i ≠ 5 → rr 0 5 i ≠ 0 := fun hi q => by unfold rr; rw [if_neg q]; split <;> omega
  have cs : va_up T.2.2.2.2.2.2 (T.1 0) V' (T.1 0) = V' := if_pos rfl
  have co : ∀ i, i < 6 → i ≠ 0 → va_up T.2.2.2.2.2.2 (T.1 0) V' (T.1 i) = T.2.2.2.2.2.2 (T.1 i) := fun i hi hz => if_neg (fun q => hz (h8 i 0 hi (by omega) q))
  have sl : ∀ i, i < 6 → i ≠ 5 → (va_up T.2.2.2.2.2.2 (T.1 0) V' (T.1 (rr 0 5 i))).1 = tSet T (rr 0 5 i) := fun i hi q => by rw [co _ (rl hi) (r0 hi q)]
  have ss : (va_up T.2.2.2.2.2.2 (T.1 0) V' (T.1 (rr 0 5 5))).1 = nI s := by rw [r5, cs]; exact hV.1
  have mu : ∀ i, i < 6 → i ≠ 5 → upd (shp (mSets M) 0 5) 5 (nI s) i = mSets M (rr 0 5 i) := fun i hi q => by
    rw [pk_un q]; unfold shp rr; rw [if_neg q, if_pos (by omega), if_pos (by omega)]
  rw [rr_v]
  refine ⟨6, by omega, h2, h3, h4, congrArg (· + 1) h5, congrArg (· + 1) h6, fun i hi => h7 _ (rl hi), fun i k hi hk q => rr_inj (by omega) (h8 _ _ (rl hi) (rl hk) q), ?_, ?_, ?_, ?_⟩
  · intro i hi
    show (va_up T.2.2.2.2.2.2 (T.1 0) V' (T.1 (rr 0 5 i))).1 = upd (shp (mSets M) 0 5) 5 (nI s) i
    by_cases q : i = 5
    · subst q; rw [ss, pk_us]
    · rw [sl i hi q, mu i hi q, h9 _ (rl hi)]
  · intro i k hi hk
    show (va_up T.2.2.2.2.2.2 (T.1 0) V' (T.1 (rr 0 5 i))).1 = (va_up T.2.2.2.2.2.2 (T.1 0) V' (T.1 (rr 0 5 k))).1 → i = k
    intro q
    by_cases q1 : i = 5
    · by_cases q2 : k = 5
      · omega
      · subst q1; rw [ss, sl k hk q2] at q; exact absurd q.symm (no _ (rl hk))
    · by_cases q2 : k = 5
      · subst q2; rw [ss, sl i hi q1] at q; exact absurd q (no _ (rl hi))
      · rw [sl i hi q1, sl k hk q2] at q; exact rr_inj (by omega) (h10 _ _ (rl hi) (rl hk) q)
  · intro i hi
    show ∃ s, 0 < s ∧ s < 256 ∧ CR S n s (va_up T.2.2.2.2.2.2 (T.1 0) V' (T.1 (rr 0 5 i)))
    by_cases q : i = 5
    · subst q; rw [r5, cs]; exact ⟨s, h0, hs, hV⟩
    · rw [co _ (rl hi) (r0 hi q)]; exact h11 _ (rl hi)
  · show EC (va_up T.2.2.2.2.2.2 (T.1 0) V' 0)
    rw [show va_up T.2.2.2.2.2.2 (T.1 0) V' 0 = T.2.2.2.2.2.2 0 from if_neg (fun q => by have := (h7 0 (by omega)).1; omega)]
    exact h12
