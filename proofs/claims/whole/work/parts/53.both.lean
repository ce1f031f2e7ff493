/-! ===== PURE HALF. what a look-up leaves as it was; two look-ups ===== -/
/-- the reference after look-ups: only the list of sets and the counts beside it differ -/
def MS (M M' : ModelV) : Prop := ∃ st x1 x2 x3 x4, M' = (M.1, M.2.1, M.2.2.1, M.2.2.2.1, M.2.2.2.2.1, M.2.2.2.2.2.1, M.2.2.2.2.2.2.1, M.2.2.2.2.2.2.2.1, st, x1, x2, x3, x4, M.2.2.2.2.2.2.2.2.2.2.2.2.2)
theorem MS_refl (M : ModelV) : MS M M := ⟨_, _, _, _, _, rfl⟩
theorem MS_trans {M M' M2 : ModelV} (h : MS M M') (h2 : MS M' M2) : MS M M2 := by
  obtain ⟨st, x1, x2, x3, x4, rfl⟩ := h
  obtain ⟨st', y1, y2, y3, y4, rfl⟩ := h2
  exact ⟨st', y1, y2, y3, y4, rfl⟩
theorem MS_rel {S : SceneV} {n : Nat} {M M' : ModelV} (h : MS M M') (hM : MRel S n M) : MRel S n M' := by
  obtain ⟨st, x1, x2, x3, x4, rfl⟩ := h
  exact hM
theorem MS_img {M M' : ModelV} (h : MS M M') : M'.2.2.2.2.2.2.2.2.2.2.2.2.2 = M.2.2.2.2.2.2.2.2.2.2.2.2.2 := by
  obtain ⟨st, x1, x2, x3, x4, rfl⟩ := h
  rfl
theorem X5_look_0 {M : ModelV} {c : Nat} (hc : c ≤ 6) (hM : mKept M = nI c) : f_X5_lookUp M 0 = some M := by
  unfold f_X5_lookUp
  rw [X5_find 0 hc hM, bd_some, if_pos rfl]
theorem look2 {S : SceneV} {n s g : Nat} {T : StoreV} {M : ModelV} (hI : SI S n) (hg : g < 8) (hs : s < 256) (h0 : s &&& (255 - 2 ^ g) ≠ 0) (h : SR S n T M) : ∃ a T1 b T2 M2, f_X3_lookUp T S (nI (s ||| 2 ^ g)) = some (a, T1) ∧ f_X3_lookUp T1 S (nI (s &&& (255 - 2 ^ g))) = some (b, T2) ∧ f_X5_lookUpBoth M (nI s) (nI g) = some M2 ∧ SR S n T2 M2 ∧ MS M M2 ∧ CR S n (s ||| 2 ^ g) (T2.2.2.2.2.2.2 a) ∧ CR S n (s &&& (255 - 2 ^ g)) (T2.2.2.2.2.2.2 b) ∧ a < 7 ∧ b < 7 := by
  have hp : 0 < s ||| 2 ^ g := by
    have : 2 ^ g ≤ s ||| 2 ^ g := Nat.right_le_or
    have := Nat.two_pow_pos g
    omega
  obtain ⟨a, T1, M1, e1, e2, e3, e4, e5, e6, ⟨k, k1, k2, k3⟩, e8, e9, e10⟩ := look hI hp (b_withlt s hs g hg) h
  obtain ⟨b, T2, M2, d1, d2, d3, d4, d5, d6, d7, d8, d9, d10⟩ := look hI (Nat.pos_of_ne_zero h0) (b_wolt s hs g hg) e3
  refine ⟨a, T1, b, T2, M2, e1, d1, ?_, d3, MS_trans e10 d10, ?_, d4, e6, d6⟩
  · unfold f_X5_lookUpBoth
    rw [b_with s hs g hg, e2, bd_some, X5_without hs hg, bd_some, d2, bd_some]
  · have q := d8 k k1 k2
    rw [k3] at q
    rw [q]
    exact e4
