/-! ===== PURE HALF. sets of gauges as numbers below 256 ===== -/
theorem b_isIn : ∀ s, s < 256 → ∀ g, g < 8 → (((nI s &&& ((1 : Int32) <<< (nI g &&& 31))) = 0) ↔ s.testBit g = false) := by decide +kernel
theorem b_has : ∀ s, s < 256 → ∀ g, g < 8 → ((((nI s >>> (nI g &&& 31)) &&& 1) = 1) ↔ s.testBit g = true) := by decide +kernel
theorem b_with : ∀ s, s < 256 → ∀ g, g < 8 → (nI s ||| ((1 : Int32) <<< (nI g &&& 31))) = nI (s ||| 2 ^ g) := by decide +kernel
theorem b_wo : ∀ s, s < 256 → ∀ g, g < 8 → (nI s &&& (((1 : Int32) <<< (nI g &&& 31)) ^^^ (-1))) = nI (s &&& (255 - 2 ^ g)) := by decide +kernel
theorem b_withlt : ∀ s, s < 256 → ∀ g, g < 8 → s ||| 2 ^ g < 256 := by decide +kernel
theorem b_wolt : ∀ s, s < 256 → ∀ g, g < 8 → s &&& (255 - 2 ^ g) < 256 := by decide +kernel
theorem b_withb : ∀ s, s < 256 → ∀ g, g < 8 → ∀ i, i < 8 → (s ||| 2 ^ g).testBit i = (s.testBit i || decide (i = g)) := by decide +kernel
theorem b_wob : ∀ s, s < 256 → ∀ g, g < 8 → ∀ i, i < 8 → (s &&& (255 - 2 ^ g)).testBit i = (s.testBit i && !decide (i = g)) := by decide +kernel
theorem b_zero : ∀ s, s < 256 → (s = 0 ↔ ∀ i, i < 8 → s.testBit i = false) := by decide +kernel
theorem X4_isIn {s g : Nat} (hs : s < 256) (hg : g < 8) : f_X4_isIn (nI s) (nI g) = some (s.testBit g) := by
  unfold f_X4_isIn
  by_cases h : s.testBit g = false
  · rw [if_pos ((b_isIn s hs g hg).mpr h), h]
  · rw [if_neg (fun q => h ((b_isIn s hs g hg).mp q)), eq_true_of_ne_false h]
theorem X5_has {s g : Nat} (hs : s < 256) (hg : g < 8) : f_X5_has (nI s) (nI g) = some (s.testBit g) := by
  unfold f_X5_has
  by_cases h : s.testBit g = true
  · rw [if_pos ((b_has s hs g hg).mpr h), h]
  · rw [if_neg (fun q => h ((b_has s hs g hg).mp q)), eq_false_of_ne_true h]
theorem X4_with {s g : Nat} (hs : s < 256) (hg : g < 8) : f_X4_with (nI s) (nI g) = some (nI (s ||| 2 ^ g)) := by
  unfold f_X4_with; rw [b_with s hs g hg]
theorem X4_without {s g : Nat} (hs : s < 256) (hg : g < 8) : f_X4_without (nI s) (nI g) = some (nI (s &&& (255 - 2 ^ g))) := by
  unfold f_X4_without; rw [b_wo s hs g hg]
theorem X5_without {s g : Nat} (hs : s < 256) (hg : g < 8) : f_X5_without (nI s) (nI g) = some (nI (s &&& (255 - 2 ^ g))) := by
  unfold f_X5_without; rw [b_wo s hs g hg]
/-- the set that works, as a number -/
def wkN (S : SceneV) (d : Nat) : Nat → Nat
  | 0 => 0
  | g + 1 => if ob (sOut S g) d = false ∧ sRd S (g * 64 + d) ≠ -6 then wkN S d g ||| 2 ^ g else wkN S d g
theorem wkN_lt (S : SceneV) (d : Nat) : ∀ n, n ≤ 8 → wkN S d n < 256
  | 0, _ => by show 0 < 256; omega
  | g + 1, h => by
    have ih := wkN_lt S d g (by omega)
    rw [wkN]
    split
    · exact b_withlt _ ih g (by omega)
    · exact ih
theorem wkS_N (S : SceneV) (d : Nat) : ∀ n, n ≤ 8 → wkS S d n = nI (wkN S d n)
  | 0, _ => rfl
  | g + 1, h => by
    have ih := wkS_N S d g (by omega)
    rw [wkS, wkN, ih]
    split
    · rw [b_with _ (wkN_lt S d g (by omega)) g (by omega)]
    · rfl
theorem wkN_bit (S : SceneV) (d : Nat) {i : Nat} (hi : i < 8) : ∀ n, n ≤ 8 → (wkN S d n).testBit i = decide (i < n ∧ ob (sOut S i) d = false ∧ sRd S (i * 64 + d) ≠ -6)
  | 0, _ => by simp [wkN]
  | g + 1, h => by
    have ih := wkN_bit S d hi g (by omega)
    rw [wkN]
    split
    · rename_i hw
      rw [b_withb _ (wkN_lt S d g (by omega)) g (by omega) i hi, ih]
      by_cases e : i = g
      · subst e; simp [hw]
      · have : (i < g + 1) ↔ i < g := by omega
        simp [e, this]
    · rename_i hw
      rw [ih]
      by_cases e : i = g
      · subst e
        have h1 : ¬ (i < i) := by omega
        simp [h1]
        intro h9
        exact Classical.byContradiction fun q => hw ⟨h9, q⟩
      · have : (i < g + 1) ↔ i < g := by omega
        simp [this]
