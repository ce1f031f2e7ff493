/-! ===== PURE HALF. a look-up on both sides ===== -/
theorem look {S : SceneV} {n s : Nat} {T : StoreV} {M : ModelV} (hI : SI S n) (h0 : 0 < s) (hs : s < 256) (h : SR S n T M) : ∃ a T' M', f_X3_lookUp T S (nI s) = some (a, T') ∧ f_X5_lookUp M (nI s) = some M' ∧ SR S n T' M' ∧ CR S n s (T'.2.2.2.2.2.2 a) ∧ 1 ≤ a ∧ a < 7 ∧ (∃ k, k < 6 ∧ T'.2.1 = nI (k + 1) ∧ T'.1 k = a) ∧ (∀ k, k < 6 → T.2.1 = nI (k + 1) → T'.2.2.2.2.2.2 (T.1 k) = T.2.2.2.2.2.2 (T.1 k)) ∧ (∀ k, T'.2.2.2.2.2.2 k = T.2.2.2.2.2.2 k ∨ 1 ≤ k) ∧ ∃ st x1 x2 x3 x4, M' = (M.1, M.2.1, M.2.2.1, M.2.2.2.1, M.2.2.2.2.1, M.2.2.2.2.2.1, M.2.2.2.2.2.2.1, M.2.2.2.2.2.2.2.1, st, x1, x2, x3, x4, M.2.2.2.2.2.2.2.2.2.2.2.2.2) := by
  have hR := h
  obtain ⟨c, h1, h2, h3, h4, h5, h6, h7, h8, h9, h10, h11, h12⟩ := h
  have hy : nI s ≠ 0 := by
    intro q
    have : s = 0 := (n_eq (by omega) (by omega)).mp (show nI s = nI 0 from q)
    omega
  have hp : ∀ i, i < 6 → T.1 i < 7 := fun i hi => (h7 i hi).2
  have fe : fnd (tSet T) (nI s) c = fnd (mSets M) (nI s) c := fnd_eq h9
  cases hf : fnd (tSet T) (nI s) c with
  | none =>
    by_cases hc : c = 6
    · subst hc
      obtain ⟨V', L', e1, e2⟩ := X3_look_full hI hs h2 hp h10 hf
      refine ⟨_, _, _, e1, X5_look_full h3 hy (fe ▸ hf), SR_full hs h0 h2 hf e2 hR, ?_, (h7 0 (by omega)).1, (h7 0 (by omega)).2, ⟨5, by omega, h2, show va_up (shp T.1 0 5) 5 (T.1 0) 5 = T.1 0 from if_pos rfl⟩, ?_, ?_, ⟨_, _, _, _, _, rfl⟩⟩
      · show CR S n s (va_up T.2.2.2.2.2.2 (T.1 0) V' (T.1 0))
        rw [show va_up T.2.2.2.2.2.2 (T.1 0) V' (T.1 0) = V' from if_pos rfl]
        exact e2
      · intro k hk hk2
        have e : 6 = k + 1 := (n_eq (by omega) (by omega)).mp (h2.symm.trans hk2)
        show va_up T.2.2.2.2.2.2 (T.1 0) V' (T.1 k) = _
        exact if_neg (fun q => absurd (h8 k 0 hk (by omega) q) (by omega))
      · intro k
        by_cases q : k = T.1 0
        · right; rw [q]; exact (h7 0 (by omega)).1
        · left; show va_up T.2.2.2.2.2.2 (T.1 0) V' k = _; exact if_neg q
    · obtain ⟨V', L', e1, e2⟩ := X3_look_free hI hs (show c < 6 by omega) h2 hp h10 hf
      refine ⟨_, _, _, e1, X5_look_free (by omega) h3 hy (fe ▸ hf), SR_free hs h0 (by omega) h2 hf e2 hR, ?_, (h7 c (by omega)).1, (h7 c (by omega)).2, ⟨c, by omega, rfl, rfl⟩, ?_, ?_, ⟨_, _, _, _, _, rfl⟩⟩
      · show CR S n s (va_up T.2.2.2.2.2.2 (T.1 c) V' (T.1 c))
        rw [show va_up T.2.2.2.2.2.2 (T.1 c) V' (T.1 c) = V' from if_pos rfl]
        exact e2
      · intro k hk hk2
        have e : c = k + 1 := (n_eq (by omega) (by omega)).mp (h2.symm.trans hk2)
        show va_up T.2.2.2.2.2.2 (T.1 c) V' (T.1 k) = _
        exact if_neg (fun q => absurd (h8 k c hk (by omega) q) (by omega))
      · intro k
        by_cases q : k = T.1 c
        · right; rw [q]; exact (h7 c (by omega)).1
        · left; show va_up T.2.2.2.2.2.2 (T.1 c) V' k = _; exact if_neg q
  | some j =>
    obtain ⟨hj, hq⟩ := fnd_lt hf
    obtain ⟨c0, rfl⟩ : ∃ c0, c = c0 + 1 := ⟨c - 1, by omega⟩
    refine ⟨_, _, _, X3_look_hit S (by omega) h2 hp h10 hf, X5_look_hit (by omega) h3 hy (fe ▸ hf), SR_hit (by omega) (by omega) h2 ((h9 j hj).symm.trans hq) hR, ?_, (h7 j (by omega)).1, (h7 j (by omega)).2, ⟨c0, by omega, h2, show va_up (shp T.1 j c0) c0 (T.1 j) c0 = T.1 j from if_pos rfl⟩, fun _ _ _ => rfl, fun _ => Or.inl rfl, ⟨_, _, _, _, _, rfl⟩⟩
    show CR S n s (T.2.2.2.2.2.2 (T.1 j))
    obtain ⟨s', q0, q1, q2⟩ := h11 j hj
    have e : s' = s := (n_eq (by omega) (by omega)).mp (q2.1.symm.trans hq)
    rw [← e]
    exact q2
