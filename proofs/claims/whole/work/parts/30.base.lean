/-! ===== PURE HALF. base: checks, loops, numbers ===== -/
theorem gd_t {α : Type} {b : Bool} {k : Option α} (h : b = true) : gd b k = k := by subst h; rfl
theorem ix_n {n N : Nat} (h : n < N) (hN : N ≤ 65536) : ix (nI n) N = true := by
  have h1 : (nI n).toNatClampNeg = n := nI_clamp (by omega)
  have h2 : ¬ nI n < 0 := nI_pos (by omega)
  simp [ix, h1, h2, h]
theorem cl_n {n : Nat} (h : n < 65536) : (nI n).toNatClampNeg = n := nI_clamp (by omega)
theorem fu_lt {n : Nat} (h : n < 1000) : n < fu := h
/-- a loop that counts from i0 up to N; F says what it holds at each count -/
theorem lp_F {σ τ ρ : Type} {body : τ → Option (τ ⊕ ρ)} (mk : Nat → σ → τ) (N : Nat) (F : Nat → σ) (ex : σ → ρ) (hs : ∀ i, i < N → body (mk i (F i)) = some (.inl (mk (i + 1) (F (i + 1))))) (he : body (mk N (F N)) = some (.inr (ex (F N)))) : ∀ (fuel i : Nat), i ≤ N → N - i < fuel → lp body fuel (mk i (F i)) = some (ex (F N)) := by
  intro fuel
  induction fuel with
  | zero => intro i _ h; omega
  | succ n ih =>
    intro i h1 h2
    by_cases hi : i = N
    · subst hi; exact lp_end he
    · rw [lp_go (hs i (by omega))]
      exact ih (i + 1) (by omega) (by omega)
/-- the same, where F is good only from i0 on -/
theorem lp_G {σ τ ρ : Type} {body : τ → Option (τ ⊕ ρ)} (mk : Nat → σ → τ) (i0 N : Nat) (F : Nat → σ) (ex : σ → ρ) (hs : ∀ i, i0 ≤ i → i < N → body (mk i (F i)) = some (.inl (mk (i + 1) (F (i + 1))))) (he : body (mk N (F N)) = some (.inr (ex (F N)))) : ∀ (fuel i : Nat), i0 ≤ i → i ≤ N → N - i < fuel → lp body fuel (mk i (F i)) = some (ex (F N)) := by
  intro fuel
  induction fuel with
  | zero => intro i _ _ h; omega
  | succ n ih =>
    intro i h0 h1 h2
    by_cases hi : i = N
    · subst hi; exact lp_end he
    · rw [lp_go (hs i h0 (by omega))]
      exact ih (i + 1) (by omega) (by omega) (by omega)
/-- a loop with a rule that holds at each count -/
theorem lp_inv {σ τ ρ : Type} {body : τ → Option (τ ⊕ ρ)} (mk : Nat → σ → τ) (N : Nat) (inv : Nat → σ → Prop) (ex : σ → ρ) (hs : ∀ i s, i < N → inv i s → ∃ s', body (mk i s) = some (.inl (mk (i + 1) s')) ∧ inv (i + 1) s') (he : ∀ s, inv N s → body (mk N s) = some (.inr (ex s))) : ∀ (fuel i : Nat) (s : σ), i ≤ N → N - i < fuel → inv i s → ∃ s', lp body fuel (mk i s) = some (ex s') ∧ inv N s' := by
  intro fuel
  induction fuel with
  | zero => intro i s _ h; omega
  | succ n ih =>
    intro i s h1 h2 h3
    by_cases hi : i = N
    · subst hi; exact ⟨s, lp_end (he s h3), h3⟩
    · obtain ⟨s', h4, h5⟩ := hs i s (by omega) h3
      obtain ⟨s2, h6, h7⟩ := ih (i + 1) s' (by omega) (by omega) h5
      exact ⟨s2, by rw [lp_go h4]; exact h6, h7⟩
theorem n_le {a b : Nat} (ha : a < 2 ^ 31) (hb : b < 2 ^ 31) : (nI a ≤ nI b) ↔ a ≤ b := nI_leI ha hb
theorem n_lt {a b : Nat} (ha : a < 2 ^ 31) (hb : b < 2 ^ 31) : (nI a < nI b) ↔ a < b := nI_ltI ha hb
theorem n_eq {a b : Nat} (ha : a < 2 ^ 31) (hb : b < 2 ^ 31) : (nI a = nI b) ↔ a = b := nI_eq ha hb
/-- a literal as nI -/
theorem n_lit (n : Nat) : (OfNat.ofNat n : Int32) = nI n := rfl
theorem b2i_f : b2i false = 0 := rfl
theorem b2i_t : b2i true = 1 := rfl
theorem b2i_0 {b : Bool} : (b2i b = 0) ↔ b = false := by cases b <;> decide
theorem i_lt (a b : Int32) : a < b ↔ a.toInt < b.toInt := Int32.lt_iff_toInt_lt
theorem i_le (a b : Int32) : a ≤ b ↔ a.toInt ≤ b.toInt := Int32.le_iff_toInt_le
theorem i_eq (a b : Int32) : a = b ↔ a.toInt = b.toInt := Int32.toInt_inj.symm
/-- an int between 0 and N - 1 is an nI -/
theorem n_of {x : Int32} {N : Nat} (h0 : ¬ x < 0) (h1 : x < nI N) (hN : N < 2 ^ 31) : ∃ n, n < N ∧ x = nI n := by
  obtain ⟨j, hj, rfl⟩ := nI_of h0
  exact ⟨j, (nI_ltI hj hN).mp h1, rfl⟩
theorem bd_some {α β : Type} (x : α) (f : α → Option β) : (some x).bind f = f x := rfl
theorem bd_ite {α β : Type} (c : Prop) (dc : Decidable c) (x y : α) (f : α → Option β) : (@ite (Option α) c dc (some x) (some y)).bind f = f (@ite α c dc x y) := by
  by_cases h : c
  · rw [if_pos h, if_pos h]; rfl
  · rw [if_neg h, if_neg h]; rfl
/-! the small functions of both sides -/
theorem X5_in (v lo hi : Int32) : f_X5_in v lo hi = some (decide (lo.toInt ≤ v.toInt ∧ v.toInt ≤ hi.toInt)) := by
  unfold f_X5_in
  simp only [i_lt]
  repeat' split
  all_goals first | exact congrArg some (decide_eq_false (by omega)).symm | exact congrArg some (decide_eq_true (by omega)).symm
theorem X5_square (x : Int32) : f_X5_square x = some (x * x) := rfl
/-- from 0 to N - 1 -/
abbrev okP (N : Nat) (x : Int32) : Prop := 0 ≤ x.toInt ∧ x.toInt < N
abbrev plP (x : Int32) : Prop := -20 ≤ x.toInt ∧ x.toInt ≤ 35
theorem okP_n {N : Nat} {x : Int32} (h : okP N x) (hN : N < 2 ^ 31) : ∃ n, n < N ∧ x = nI n := by
  obtain ⟨h1, h2⟩ := h
  refine ⟨x.toInt.toNat, by omega, ?_⟩
  rw [i_eq, nI_toInt (by omega)]
  omega
theorem okP_of {N n : Nat} (h : n < N) (hN : N < 2 ^ 31) : okP N (nI n) := by
  show 0 ≤ (nI n).toInt ∧ (nI n).toInt < N
  rw [nI_toInt (by omega)]
  omega
theorem t0 : (0 : Int32).toInt = 0 := by decide
theorem t1 : (1 : Int32).toInt = 1 := by decide
theorem t15 : (15 : Int32).toInt = 15 := by decide
theorem t16 : (16 : Int32).toInt = 16 := by decide
theorem t35 : (35 : Int32).toInt = 35 := by decide
theorem tm20 : (-20 : Int32).toInt = -20 := by decide
theorem t63 : (63 : Int32).toInt = 63 := by decide
theorem t64 : (64 : Int32).toInt = 64 := by decide
theorem X4_isPlot (x y : Int32) : f_X4_isPlot x y = some (decide (okP 16 x ∧ okP 16 y)) := by
  unfold f_X4_isPlot
  simp only [i_lt, i_le, t0, t16]
  repeat' split
  all_goals first | exact congrArg some (decide_eq_false (by omega)).symm | exact congrArg some (decide_eq_true (by omega)).symm
theorem X4_isPlace (x y : Int32) : f_X4_isPlace x y = some (decide (plP x ∧ plP y)) := by
  unfold f_X4_isPlace
  simp only [i_lt, i_le, tm20, t35]
  repeat' split
  all_goals first | exact congrArg some (decide_eq_false (by omega)).symm | exact congrArg some (decide_eq_true (by omega)).symm
theorem X4_isDay (x : Int32) : f_X4_isDay x = some (decide (okP 64 x)) := by
  unfold f_X4_isDay
  simp only [i_lt, i_le, t0, t64]
  repeat' split
  all_goals first | exact congrArg some (decide_eq_false (by omega)).symm | exact congrArg some (decide_eq_true (by omega)).symm
theorem X4_areDays (x y : Int32) : f_X4_areDays x y = some (decide (okP 64 x ∧ okP 64 y ∧ x.toInt ≤ y.toInt)) := by
  unfold f_X4_areDays
  simp only [X4_isDay, bd_some, b2i_0, decide_eq_false_iff_not, i_lt]
  repeat' split
  all_goals first | exact congrArg some (decide_eq_false (by omega)).symm | exact congrArg some (decide_eq_true (by omega)).symm
theorem X4_isPart (x : Int32) : f_X4_isPart x = some (decide (okP 2 x)) := by
  unfold f_X4_isPart
  simp only [i_eq, t0, t1]
  repeat' split
  all_goals first | exact congrArg some (decide_eq_false (by omega)).symm | exact congrArg some (decide_eq_true (by omega)).symm
theorem X5_in0 (x : Int32) (N : Nat) (hN : N < 2 ^ 30) : f_X5_in x 0 (nI N) = some (decide (okP (N + 1) x)) := by
  unfold f_X5_in
  simp only [i_lt, t0, nI_toInt (show N < 2 ^ 31 by omega)]
  repeat' split
  all_goals first | exact congrArg some (decide_eq_false (by omega)).symm | exact congrArg some (decide_eq_true (by omega)).symm
theorem X5_isDay (x : Int32) : f_X5_isDay x = some (decide (okP 64 x)) := by
  unfold f_X5_isDay
  rw [show (63 : Int32) = nI 63 from rfl, X5_in0 x 63 (by decide)]
  rfl
theorem X5_isPlace (x y : Int32) : f_X5_isPlace x y = some (decide (plP x ∧ plP y)) := by
  unfold f_X5_isPlace f_X5_in
  simp only [i_lt, tm20, t35]
  repeat' split
  all_goals simp_all [b2i]
  all_goals omega
