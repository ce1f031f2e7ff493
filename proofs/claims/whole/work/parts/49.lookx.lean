/-! ===== PURE HALF. the class's look-up, case by case ===== -/
theorem X3_look_hit {T : StoreV} {c j : Nat} (S : SceneV) {y : Int32} (hc : c < 6) (hT : T.2.1 = nI (c + 1)) (hp : ∀ i, i < 6 → T.1 i < 7) (hu : ∀ i j, i < c + 1 → j < c + 1 → tSet T i = tSet T j → i = j) (hf : fnd (tSet T) y (c + 1) = some j) : f_X3_lookUp T S y = some (T.1 j, (va_up (shp T.1 j c) c (T.1 j), T.2.1, T.2.2.1 + 1, T.2.2.2)) := by
  have hj := (fnd_lt hf).1
  unfold f_X3_lookUp
  rw [show (0 : Int32) = nI 0 from rfl, lookUp_lp S y (show c + 1 ≤ 6 by omega) hT hp hu (c + 1) 0 fu rfl (by omega) rfl (fu_lt (by omega)), hf, bd_some]
  simp only
  rw [X3_putLast (T := (T.1, T.2.1, (T.2.2.1 + 1), T.2.2.2)) hc (show j ≤ c by omega) hT hp, bd_some]
theorem X3_look_full {T : StoreV} {S : SceneV} {n s : Nat} (hI : SI S n) (hs : s < 256) (hT : T.2.1 = nI 6) (hp : ∀ i, i < 6 → T.1 i < 7) (hu : ∀ i j, i < 6 → j < 6 → tSet T i = tSet T j → i = j) (hf : fnd (tSet T) (nI s) 6 = none) : ∃ V' L', f_X3_lookUp T S (nI s) = some (T.1 0, (va_up (shp T.1 0 5) 5 (T.1 0), T.2.1, T.2.2.1, T.2.2.2.1 + 1, T.2.2.2.2.1 + 1, L', va_up T.2.2.2.2.2.2 (T.1 0) V')) ∧ CR S n s V' := by
  obtain ⟨V', L', h1, h2, -⟩ := X0_workOut (n := n) (s := s) (T.2.2.2.2.2.2 (T.1 0)) T.2.2.2.2.2.1 hI hs
  refine ⟨V', L', ?_, h2⟩
  unfold f_X3_lookUp
  rw [show (0 : Int32) = nI 0 from rfl, lookUp_lp S (nI s) (Nat.le_refl 6) hT hp hu 6 0 fu rfl (by omega) rfl (fu_lt (by omega)), hf, bd_some]
  simp only
  rw [X3_room_full (T := (T.1, T.2.1, T.2.2.1, (T.2.2.2.1 + 1), T.2.2.2.2)) hT hp, bd_some, gd_t (decide_eq_true (hp 0 (by omega)))]
  simp only
  rw [h1, bd_some]
theorem X3_look_free {T : StoreV} {S : SceneV} {n s c : Nat} (hI : SI S n) (hs : s < 256) (hc : c < 6) (hT : T.2.1 = nI c) (hp : ∀ i, i < 6 → T.1 i < 7) (hu : ∀ i j, i < c → j < c → tSet T i = tSet T j → i = j) (hf : fnd (tSet T) (nI s) c = none) : ∃ V' L', f_X3_lookUp T S (nI s) = some (T.1 c, (T.1, nI (c + 1), T.2.2.1, T.2.2.2.1 + 1, T.2.2.2.2.1, L', va_up T.2.2.2.2.2.2 (T.1 c) V')) ∧ CR S n s V' := by
  obtain ⟨V', L', h1, h2, -⟩ := X0_workOut (n := n) (s := s) (T.2.2.2.2.2.2 (T.1 c)) T.2.2.2.2.2.1 hI hs
  refine ⟨V', L', ?_, h2⟩
  unfold f_X3_lookUp
  rw [show (0 : Int32) = nI 0 from rfl, lookUp_lp S (nI s) (show c ≤ 6 by omega) hT hp hu c 0 fu rfl (by omega) rfl (fu_lt (by omega)), hf, bd_some]
  simp only
  rw [X3_room_free (T := (T.1, T.2.1, T.2.2.1, (T.2.2.2.1 + 1), T.2.2.2.2)) hc hT hp, bd_some, gd_t (decide_eq_true (hp c hc))]
  simp only
  rw [h1, bd_some]
