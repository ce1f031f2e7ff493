/-! ===== PURE HALF. a miss keeps the store's rule ===== -/
theorem SR_free {S : SceneV} {n s c : Nat} {T : StoreV} {M : ModelV} {V' : CellV} {L' : Nat → Int32} (hs : s < 256) (h0 : 0 < s) (hc : c < 6) (hT : T.2.1 = nI c) (hf : fnd (tSet T) (nI s) c = none) (hV : CR S n s V') (h : SR S n T M) : SR S n (T.1, nI (c + 1), T.2.2.1, T.2.2.2.1 + 1, T.2.2.2.2.1, L', va_up T.2.2.2.2.2.2 (T.1 c) V') (M.1, M.2.1, M.2.2.1, M.2.2.2.1, M.2.2.2.2.1, M.2.2.2.2.2.1, M.2.2.2.2.2.2.1, M.2.2.2.2.2.2.2.1, upd (mSets M) c (nI s), nI (c + 1), M.2.2.2.2.2.2.2.2.2.2.1, M.2.2.2.2.2.2.2.2.2.2.2.1 + 1, M.2.2.2.2.2.2.2.2.2.2.2.2.1 + 0, M.2.2.2.2.2.2.2.2.2.2.2.2.2) := by
  obtain ⟨c', h1, h2, h3, h4, h5, h6, h7, h8, h9, h10, h11, h12⟩ := h
  have e : c' = c := (n_eq (by omega) (by omega)).mp (h2.symm.trans hT)
  subst e
  have no := fnd_none hf
  have cs : va_up T.2.2.2.2.2.2 (T.1 c') V' (T.1 c') = V' := if_pos rfl
  have co : ∀ i, i < c' → va_up T.2.2.2.2.2.2 (T.1 c') V' (T.1 i) = T.2.2.2.2.2.2 (T.1 i) := fun i hi => if_neg (fun q => absurd (h8 i c' (by omega) hc q) (by omega))
  have sl : ∀ i, i < c' → (va_up T.2.2.2.2.2.2 (T.1 c') V' (T.1 i)).1 = tSet T i := fun i hi => by rw [co i hi]
  have ss : (va_up T.2.2.2.2.2.2 (T.1 c') V' (T.1 c')).1 = nI s := by rw [cs]; exact hV.1
  refine ⟨c' + 1, by omega, rfl, rfl, h4, congrArg (· + 1) h5, ?_, h7, h8, ?_, ?_, ?_, ?_⟩
  · show T.2.2.2.2.1 = _
    rw [h6]; exact (Int32.add_zero _).symm
  · intro i hi
    show (va_up T.2.2.2.2.2.2 (T.1 c') V' (T.1 i)).1 = upd (mSets M) c' (nI s) i
    by_cases q : i = c'
    · subst q; rw [ss, pk_us]
    · rw [sl i (by omega), pk_un q, h9 i (by omega)]
  · intro i k hi hk
    show (va_up T.2.2.2.2.2.2 (T.1 c') V' (T.1 i)).1 = (va_up T.2.2.2.2.2.2 (T.1 c') V' (T.1 k)).1 → i = k
    intro q
    by_cases q1 : i = c'
    · by_cases q2 : k = c'
      · omega
      · subst q1; rw [ss, sl k (by omega)] at q; exact absurd q.symm (no k (by omega))
    · by_cases q2 : k = c'
      · subst q2; rw [ss, sl i (by omega)] at q; exact absurd q (no i (by omega))
      · rw [sl i (by omega), sl k (by omega)] at q; exact h10 i k (by omega) (by omega) q
  · intro i hi
    show ∃ s, 0 < s ∧ s < 256 ∧ CR S n s (va_up T.2.2.2.2.2.2 (T.1 c') V' (T.1 i))
    by_cases q : i = c'
    · subst q; rw [cs]; exact ⟨s, h0, hs, hV⟩
    · rw [co i (by omega)]; exact h11 i (by omega)
  · show EC (va_up T.2.2.2.2.2.2 (T.1 c') V' 0)
    rw [show va_up T.2.2.2.2.2.2 (T.1 c') V' 0 = T.2.2.2.2.2.2 0 from if_neg (fun q => by have := (h7 c' hc).1; omega)]
    exact h12
