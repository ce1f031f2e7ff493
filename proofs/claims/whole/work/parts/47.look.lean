/-! ===== PURE HALF. where a set lies in the store ===== -/
def fnd (f : Nat → Int32) (y : Int32) : Nat → Option Nat
  | 0 => none
  | k + 1 => if f k = y then some k else fnd f y k
theorem fnd_lt {f : Nat → Int32} {y : Int32} {k : Nat} : ∀ {n : Nat}, fnd f y n = some k → k < n ∧ f k = y
  | 0, h => by cases h
  | n + 1, h => by
    rw [fnd] at h
    split at h
    · rename_i q; cases h; exact ⟨by omega, q⟩
    · have := fnd_lt h; exact ⟨by omega, this.2⟩
theorem fnd_none {f : Nat → Int32} {y : Int32} : ∀ {n : Nat}, fnd f y n = none → ∀ k, k < n → ¬ f k = y
  | 0, _, k, hk => by omega
  | n + 1, h, k, hk => by
    rw [fnd] at h
    split at h
    · cases h
    · rename_i q
      by_cases e : k = n
      · subst e; exact q
      · exact fnd_none h k (by omega)
theorem fnd_u {f : Nat → Int32} {y : Int32} {n i : Nat} (hu : ∀ i j, i < n → j < n → f i = f j → i = j) (hi : f i = y) : ∀ {m : Nat}, i < m → m ≤ n → fnd f y m = some i
  | 0, h, _ => by omega
  | m + 1, h, hm => by
    rw [fnd]
    by_cases e : i = m
    · subst e; rw [if_pos hi]
    · have q : ¬ f m = y := fun q => e (hu i m (by omega) (by omega) (hi.trans q.symm))
      rw [if_neg q]
      exact fnd_u hu hi (by omega) (by omega)
theorem fnd_eq {f f' : Nat → Int32} {y : Int32} : ∀ {n : Nat}, (∀ k, k < n → f k = f' k) → fnd f y n = fnd f' y n
  | 0, _ => rfl
  | n + 1, h => by rw [fnd, fnd, h n (by omega), fnd_eq (fun k hk => h k (by omega))]
/-- the set of the k-th cells of the store -/
abbrev tSet (T : StoreV) (k : Nat) : Int32 := (T.2.2.2.2.2.2 (T.1 k)).1
theorem lookUp_lp {T : StoreV} {c : Nat} (S : SceneV) (y : Int32) (hc : c ≤ 6) (hT : T.2.1 = nI c) (hp : ∀ i, i < 6 → T.1 i < 7) (hu : ∀ i j, i < c → j < c → tSet T i = tSet T j → i = j) : ∀ (k i fuel : Nat), c - i = k → i ≤ c → fnd (tSet T) y i = none → k < fuel → lp (f_X3_lookUp_L2 T S y) fuel (nI i) = some (match fnd (tSet T) y c with | none => .inl () | some g => .inr (nI g)) := by
  intro k
  induction k with
  | zero =>
    intro i fuel h1 h2 h3 h4
    have e : i = c := by omega
    subst e
    obtain ⟨f', rfl⟩ : ∃ f', fuel = f' + 1 := ⟨fuel - 1, by omega⟩
    rw [h3]
    apply lp_end
    unfold f_X3_lookUp_L2
    rw [if_pos (by rw [hT, n_le (by omega) (by omega)]; omega)]
  | succ k ih =>
    intro i fuel h1 h2 h3 h4
    obtain ⟨f', rfl⟩ : ∃ f', fuel = f' + 1 := ⟨fuel - 1, by omega⟩
    have q : ¬ T.2.1 ≤ nI i := by rw [hT, n_le (by omega) (by omega)]; omega
    by_cases h : tSet T i = y
    · rw [fnd_u hu h (show i < c by omega) (Nat.le_refl c)]
      apply lp_end
      unfold f_X3_lookUp_L2
      rw [if_neg q, gd_t (ix_n (show i < 6 by omega) (by omega)), cl_n (by omega), gd_t (decide_eq_true (hp i (by omega))), if_pos h]
    · have e : f_X3_lookUp_L2 T S y (nI i) = some (.inl (nI (i + 1))) := by
        unfold f_X3_lookUp_L2
        rw [if_neg q, gd_t (ix_n (show i < 6 by omega) (by omega)), cl_n (by omega), gd_t (decide_eq_true (hp i (by omega))), if_neg h, nI_1]
      rw [lp_go e]
      exact ih (i + 1) f' (by omega) (by omega) (by rw [fnd, if_neg h, h3]) (by omega)
theorem X5_find {M : ModelV} {c : Nat} (y : Int32) (hc : c ≤ 6) (hM : mKept M = nI c) : lp (f_X5_lookUp_L5 M y) fu (-6, 0) = some (orI (fnd (mSets M) y c) (-6)) :=
  lp_F (body := f_X5_lookUp_L5 M y) (fun i s => (s, nI i)) c (fun i => orI (fnd (mSets M) y i) (-6)) id (fun i hi => by
    unfold f_X5_lookUp_L5
    have q : ¬ M.2.2.2.2.2.2.2.2.2.1 ≤ nI i := by rw [show M.2.2.2.2.2.2.2.2.2.1 = nI c from hM, n_le (by omega) (by omega)]; omega
    simp only [if_neg q, gd_t (ix_n (show i < 6 by omega) (by omega : (6 : Nat) ≤ 65536)), cl_n (show i < 65536 by omega), nI_1, fnd]
    by_cases h1 : M.2.2.2.2.2.2.2.2.1 i = y
    · rw [if_pos h1, if_pos h1]; rfl
    · rw [if_neg h1, if_neg h1]; rfl) (by
    unfold f_X5_lookUp_L5
    have q : M.2.2.2.2.2.2.2.2.2.1 ≤ nI c := by rw [show M.2.2.2.2.2.2.2.2.2.1 = nI c from hM, n_le (by omega) (by omega)]; omega
    simp only [if_pos q]; rfl) fu 0 (by omega) (fu_lt (by omega))
