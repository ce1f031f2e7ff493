/-! ===== PURE HALF. the relation between class and reference ===== -/
abbrev ImgV : Type := (Nat → Int32) × (Nat → Int32) × (Nat → Int32) × (Nat → Int32) × (Nat → Int32) × (Nat → Int32)
abbrev mImg (M : ModelV) : ImgV := M.2.2.2.2.2.2.2.2.2.2.2.2.2
/-- the reference's image k is that of the scene S -/
def IR (S : SceneV) (k : Nat) (I : ImgV) : Prop := ∃ n, SI S n ∧ MR S n (fun y => I.2.1 (32 * k + y)) (fun y => I.2.1 (32 * k + 16 + y)) (I.2.2.1 k) (fun g => I.2.2.2.1 (24 * k + 3 * g)) (fun g => I.2.2.2.1 (24 * k + 3 * g + 1)) (fun g => I.2.2.2.1 (24 * k + 3 * g + 2)) (fun i => I.2.2.2.2.1 (512 * k + i)) (fun i => I.2.2.2.2.2 (512 * k + i))
/-- both images, and which of them are kept -/
def IM (A B : SceneV) (w : Int32) (I : ImgV) : Prop := ∃ b0 b1 : Bool, I.1 0 = b2i b0 ∧ I.1 1 = b2i b1 ∧ w = nI (b0.toNat + 2 * b1.toNat) ∧ (b0 = true → IR A 0 I) ∧ (b1 = true → IR B 1 I)
def RlN (n : Nat) (R : RcV) (M : ModelV) : Prop := SI R.1 n ∧ MRel R.1 n M ∧ SR R.1 n R.2.2.2.2.1 M ∧ IM R.2.1 R.2.2.1 R.2.2.2.1 (mImg M)
def Rel (R : RcV) (M : ModelV) : Prop := ∃ n, RlN n R M
/-- both answer, alike, and are alike again -/
def Sm (a : Option (Int32 × RcV)) (b : Option (Int32 × ModelV)) : Prop := ∃ r R' M', a = some (r, R') ∧ b = some (r, M') ∧ Rel R' M'
def Se (a b : Option Int32) : Prop := ∃ r, a = some r ∧ b = some r
theorem Sm_same {R : RcV} {M : ModelV} (h : Rel R M) (r : Int32) : Sm (some (r, R)) (some (r, M)) := ⟨r, R, M, rfl, rfl, h⟩
theorem Se_same (r : Int32) : Se (some r) (some r) := ⟨r, rfl, rfl⟩
abbrev rcT (R : RcV) (T : StoreV) : RcV := (R.1, R.2.1, R.2.2.1, R.2.2.2.1, T, R.2.2.2.2.2)
theorem RlN_look {n : Nat} {R : RcV} {M M' : ModelV} {T' : StoreV} (h : RlN n R M) (hS : SR R.1 n T' M') (hm : MS M M') : RlN n (rcT R T') M' := by
  obtain ⟨hI, hM, -, hG⟩ := h
  refine ⟨hI, MS_rel hm hM, hS, ?_⟩
  show IM _ _ _ (mImg M')
  rw [show mImg M' = mImg M from MS_img hm]
  exact hG
theorem wk1 {n d : Nat} {S : SceneV} (hI : SI S n) (hd : d < 64) : f_X1_workingOn S (nI d) = some (nI (wkN S d n)) := by
  rw [X1_workingOn S hI.2.1 hI.1 hd, wkS_N S d n hI.1]
theorem wk5 {n d : Nat} {S : SceneV} {M : ModelV} (hI : SI S n) (hM : MRel S n M) (hd : d < 64) : f_X5_workingOn M (nI d) = some (nI (wkN S d n)) := by
  rw [X5_workingOn hI hM hd, wkS_N S d n hI.1]
theorem wk_lt {n : Nat} {S : SceneV} (hI : SI S n) (d : Nat) : wkN S d n < 256 := wkN_lt S d n hI.1
theorem n_0 {s : Nat} (hs : s < 65536) : (nI s = 0) ↔ s = 0 := by
  rw [show (0 : Int32) = nI 0 from rfl, n_eq (by omega) (by omega)]
theorem cellsOn {n d : Nat} {R : RcV} {M : ModelV} (h : RlN n R M) (hd : d < 64) : ∃ a T' M', f_X4_cellsOn R (nI d) = some (a, rcT R T') ∧ f_X5_lookUp M (nI (wkN R.1 d n)) = some M' ∧ MS M M' ∧ RlN n (rcT R T') M' ∧ CR R.1 n (wkN R.1 d n) (T'.2.2.2.2.2.2 a) ∧ a < 7 := by
  have hR := h
  obtain ⟨hI, hM, hS, hG⟩ := h
  have hlt := wk_lt hI d
  by_cases h0 : wkN R.1 d n = 0
  · refine ⟨0, R.2.2.2.2.1, M, ?_, ?_, MS_refl M, hR, ?_, by omega⟩
    · unfold f_X4_cellsOn
      rw [wk1 hI hd, bd_some, h0, if_pos (show nI 0 = 0 from rfl)]
    · rw [h0]
      obtain ⟨c, h1, h2, h3, -⟩ := hS
      exact X5_look_0 h1 h3
    · rw [h0]
      obtain ⟨c, -, -, -, -, -, -, -, -, -, -, -, h12⟩ := hS
      exact EC_CR h12 _ _
  · obtain ⟨a, T', M', e1, e2, e3, e4, e5, e6, e7, e8, e9, e10⟩ := look hI (Nat.pos_of_ne_zero h0) hlt hS
    refine ⟨a, T', M', ?_, e2, e10, RlN_look hR e3 e10, e4, e6⟩
    unfold f_X4_cellsOn
    rw [wk1 hI hd, bd_some, if_neg (fun q => h0 ((n_0 (by omega)).mp q)), e1, bd_some]
/-! what a change of the scene leaves -/
theorem SR_go {S : SceneV} {n : Nat} {T : StoreV} {M M' : ModelV} (S' : SceneV) (n' : Nat) (h : SR S n T M) (hk : mKept M' = 0) (h1 : M'.2.2.2.2.2.2.2.2.2.2.1 = M.2.2.2.2.2.2.2.2.2.2.1) (h2 : M'.2.2.2.2.2.2.2.2.2.2.2.1 = M.2.2.2.2.2.2.2.2.2.2.2.1) (h3 : M'.2.2.2.2.2.2.2.2.2.2.2.2.1 = M.2.2.2.2.2.2.2.2.2.2.2.2.1) : SR S' n' (T.1, 0, T.2.2) M' := by
  obtain ⟨c, -, -, -, g4, g5, g6, g7, g8, -, -, -, g12⟩ := h
  exact ⟨0, by omega, rfl, hk, g4.trans h1.symm, g5.trans h2.symm, g6.trans h3.symm, g7, g8, fun i hi => absurd hi (by omega), fun i j hi => absurd hi (by omega), fun i hi => absurd hi (by omega), g12⟩
abbrev scX (S : SceneV) (o : Nat → Int64) (r : Nat → Int32) : SceneV := (S.1, S.2.1, S.2.2.1, S.2.2.2.1, S.2.2.2.2.1, S.2.2.2.2.2.1, o, r)
theorem ow_sc (S : SceneV) (o : Nat → Int64) (r : Nat → Int32) (s x y : Nat) : ∀ n, ow (scX S o r) s x y n = ow S s x y n
  | 0 => rfl
  | g + 1 => by rw [ow, ow, ow_sc S o r s x y g]; rfl
theorem ownP_sc (S : SceneV) (o : Nat → Int64) (r : Nat → Int32) (n s : Nat) : ownP (scX S o r) n s = ownP S n s := by
  funext p; unfold ownP; rw [ow_sc]; rfl
theorem lefP_sc (S : SceneV) (o : Nat → Int64) (r : Nat → Int32) (n s : Nat) : lefP (scX S o r) n s = lefP S n s := by
  funext p; unfold lefP; rw [ow_sc]; rfl
theorem CR_sc {S : SceneV} (o : Nat → Int64) (r : Nat → Int32) {n s : Nat} {V : CellV} (h : CR S n s V) : CR (scX S o r) n s V := by
  unfold CR
  rw [ownP_sc, lefP_sc]
  exact h
theorem SR_sc {S : SceneV} {n : Nat} {T : StoreV} {M : ModelV} (o : Nat → Int64) (r : Nat → Int32) (x7 x8 : Nat → Int32) (h : SR S n T M) : SR (scX S o r) n T (M.1, M.2.1, M.2.2.1, M.2.2.2.1, M.2.2.2.2.1, M.2.2.2.2.2.1, x7, x8, M.2.2.2.2.2.2.2.2) := by
  obtain ⟨c, g1, g2, g3, g4, g5, g6, g7, g8, g9, g10, g11, g12⟩ := h
  exact ⟨c, g1, g2, g3, g4, g5, g6, g7, g8, g9, g10, fun i hi => (g11 i hi).imp (fun s q => ⟨q.1, q.2.1, CR_sc o r q.2.2⟩), g12⟩
theorem upd_P {P : Int32 → Prop} {f : Nat → Int32} {k j : Nat} {v : Int32} (h : P v) (h2 : P (f j)) : P (upd f k v j) := by
  unfold upd
  split
  · exact h
  · exact h2
theorem upd_cg {f g : Nat → Int32} {k j : Nat} {v : Int32} (h : f j = g j) : upd f k v j = upd g k v j := by
  unfold upd
  rw [h]
theorem in_1 (x : Int32) : f_X5_in x 0 1 = some (decide (okP 2 x)) := X5_in0 x 1 (by decide)
theorem in_2 (x : Int32) : f_X5_in x 0 2 = some (decide (okP 3 x)) := X5_in0 x 2 (by decide)
theorem in_3 (x : Int32) : f_X5_in x 0 3 = some (decide (okP 4 x)) := X5_in0 x 3 (by decide)
theorem in_15 (x : Int32) : f_X5_in x 0 15 = some (decide (okP 16 x)) := X5_in0 x 15 (by decide)
theorem in_9999 (x : Int32) : f_X5_in x 0 9999 = some (decide (okP 10000 x)) := X5_in0 x 9999 (by decide)
