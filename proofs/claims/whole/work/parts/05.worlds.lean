/-! ===== what the cells of the class and of the reference hold, as values; and the worlds that hold them ===== -/
abbrev CellV : Type := Int32 × (Nat → Int32) × (Nat → Int32) × (Nat → Int32)
abbrev SceneV : Type := (Nat → Int32) × (Nat → Int32) × Int32 × (Nat → Int32) × (Nat → Int32) × (Nat → Int32) × (Nat → Int64) × (Nat → Int32)
abbrev SearchV : Type := Int32 × Int32 × Int32 × CellV × (Nat → Int32) × (Nat → Int32) × (Nat → Int32) × (Nat → Int32)
abbrev StoreV : Type := (Nat → Nat) × Int32 × Int32 × Int32 × Int32 × (Nat → Int32) × (Nat → CellV)
abbrev RcV : Type := SceneV × SceneV × SceneV × Int32 × StoreV × SearchV
abbrev ModelV : Type := (Nat → Int32) × (Nat → Int32) × Int32 × (Nat → Int32) × (Nat → Int32) × (Nat → Int32) × (Nat → Int32) × (Nat → Int32) × (Nat → Int32) × Int32 × Int32 × Int32 × Int32 × (Nat → Int32) × (Nat → Int32) × (Nat → Int32) × (Nat → Int32) × (Nat → Int32) × (Nat → Int32)
abbrev arrW (k : Nat → ClassId) (a : Nat → Nat) (n : Nat) (f : Nat → Int32) : va_W := [(a 0, .inl (k 0, n, .inl f))]
abbrev cellsW (k : Nat → ClassId) (a : Nat → Nat) (V : CellV) : va_W := [(a 0, .inr (0, [.int V.1, .ref (a 1), .ref (a 2), .ref (a 3)])), (a 1, .inl (k 0, 256, .inl V.2.1)), (a 2, .inl (k 0, 8, .inl V.2.2.1)), (a 3, .inl (k 0, 8, .inl V.2.2.2))]
abbrev sceneW (k : Nat → ClassId) (a : Nat → Nat) (S : SceneV) : va_W := [(a 0, .inr (1, [.ref (a 1), .ref (a 2), .int S.2.2.1, .ref (a 3), .ref (a 4), .ref (a 5), .ref (a 6), .ref (a 7)])), (a 1, .inl (k 0, 16, .inl S.1)), (a 2, .inl (k 0, 16, .inl S.2.1)), (a 3, .inl (k 0, 8, .inl S.2.2.2.1)), (a 4, .inl (k 0, 8, .inl S.2.2.2.2.1)), (a 5, .inl (k 0, 8, .inl S.2.2.2.2.2.1)), (a 6, .inl (k 1, 8, .inr (.inl S.2.2.2.2.2.2.1))), (a 7, .inl (k 0, 512, .inl S.2.2.2.2.2.2.2))]
abbrev searchW (k : Nat → ClassId) (a : Nat → Nat) (Z : SearchV) : va_W := (a 0, .inr (2, [.int Z.1, .int Z.2.1, .int Z.2.2.1, .ref (a 1), .ref (a 5), .ref (a 6), .ref (a 7), .ref (a 8)])) :: (cellsW k (fun j => a (1 + j)) Z.2.2.2.1 ++ [(a 5, .inl (k 0, 256, .inl Z.2.2.2.2.1)), (a 6, .inl (k 0, 256, .inl Z.2.2.2.2.2.1)), (a 7, .inl (k 0, 16, .inl Z.2.2.2.2.2.2.1)), (a 8, .inl (k 0, 16, .inl Z.2.2.2.2.2.2.2))])
/-- seven Cells: the one of the empty set first, then those that are kept or wait -/
abbrev storeW (k : Nat → ClassId) (a : Nat → Nat) (T : StoreV) : va_W := (a 0, .inr (3, [.ref (a 1), .int T.2.1, .int T.2.2.1, .int T.2.2.2.1, .int T.2.2.2.2.1, .ref (a 3), .ref (a 2)])) :: (a 1, .inl (k 3, 6, .inr (.inr (.inr (.inr (fun j => some (a (3 + 4 * T.1 j)))))))) :: (a 2, .inl (k 0, 256, .inl T.2.2.2.2.2.1)) :: (cellsW k (fun j => a (3 + j)) (T.2.2.2.2.2.2 0) ++ (cellsW k (fun j => a (7 + j)) (T.2.2.2.2.2.2 1) ++ (cellsW k (fun j => a (11 + j)) (T.2.2.2.2.2.2 2) ++ (cellsW k (fun j => a (15 + j)) (T.2.2.2.2.2.2 3) ++ (cellsW k (fun j => a (19 + j)) (T.2.2.2.2.2.2 4) ++ (cellsW k (fun j => a (23 + j)) (T.2.2.2.2.2.2 5) ++ cellsW k (fun j => a (27 + j)) (T.2.2.2.2.2.2 6)))))))
abbrev rcW (k : Nat → ClassId) (a : Nat → Nat) (R : RcV) : va_W := (a 0, .inr (4, [.ref (a 2), .ref (a 1), .int R.2.2.2.1, .ref (a 26), .ref (a 57)])) :: (a 1, .inl (k 4, 2, .inr (.inr (.inr (.inr (fun j => some (a (10 + 8 * j)))))))) :: (sceneW k (fun j => a (2 + j)) R.1 ++ (sceneW k (fun j => a (10 + j)) R.2.1 ++ (sceneW k (fun j => a (18 + j)) R.2.2.1 ++ (storeW k (fun j => a (26 + j)) R.2.2.2.2.1 ++ searchW k (fun j => a (57 + j)) R.2.2.2.2.2))))
abbrev modelW (k : Nat → ClassId) (a : Nat → Nat) (M : ModelV) : va_W := [(a 0, .inr (5, [.ref (a 1), .ref (a 2), .int M.2.2.1, .ref (a 3), .ref (a 4), .ref (a 5), .ref (a 6), .ref (a 7), .ref (a 8), .int M.2.2.2.2.2.2.2.2.2.1, .int M.2.2.2.2.2.2.2.2.2.2.1, .int M.2.2.2.2.2.2.2.2.2.2.2.1, .int M.2.2.2.2.2.2.2.2.2.2.2.2.1, .ref (a 9), .ref (a 10), .ref (a 11), .ref (a 12), .ref (a 13), .ref (a 14)])),
  (a 1, .inl (k 0, 16, .inl M.1)), (a 2, .inl (k 0, 16, .inl M.2.1)), (a 3, .inl (k 0, 8, .inl M.2.2.2.1)), (a 4, .inl (k 0, 8, .inl M.2.2.2.2.1)), (a 5, .inl (k 0, 8, .inl M.2.2.2.2.2.1)), (a 6, .inl (k 2, 512, .inl M.2.2.2.2.2.2.1)), (a 7, .inl (k 0, 512, .inl M.2.2.2.2.2.2.2.1)), (a 8, .inl (k 0, 6, .inl M.2.2.2.2.2.2.2.2.1)),
  (a 9, .inl (k 2, 2, .inl M.2.2.2.2.2.2.2.2.2.2.2.2.2.1)), (a 10, .inl (k 0, 64, .inl M.2.2.2.2.2.2.2.2.2.2.2.2.2.2.1)), (a 11, .inl (k 0, 2, .inl M.2.2.2.2.2.2.2.2.2.2.2.2.2.2.2.1)), (a 12, .inl (k 0, 48, .inl M.2.2.2.2.2.2.2.2.2.2.2.2.2.2.2.2.1)), (a 13, .inl (k 2, 1024, .inl M.2.2.2.2.2.2.2.2.2.2.2.2.2.2.2.2.2.1)), (a 14, .inl (k 0, 1024, .inl M.2.2.2.2.2.2.2.2.2.2.2.2.2.2.2.2.2.2))]
theorem va_P_nil {D : va_G} {H : Heap} : va_P D vwCl [] H := fun j q h => by simp at h
theorem if_n {α : Type} {c : Prop} {dc : Decidable c} {B : Option α} {x : α} (h : (@ite _ c dc none B) = some x) : ¬ c ∧ B = some x := by
  by_cases hc : c
  · rw [if_pos hc] at h; cases h
  · rw [if_neg hc] at h; exact ⟨hc, h⟩
/-- one of the seven Cells, out of the store's world -/
theorem st_cell {D : va_G} {k : Nat → ClassId} {a : Nat → Nat} {T : StoreV} {H : Heap} {p : Nat} (hp : p < 7) (h : va_P D vwCl (storeW k a T) H) : va_P D vwCl (cellsW k (fun j => a (3 + 4 * p + j)) (T.2.2.2.2.2.2 p)) H := by
  rcases (show p = 0 ∨ p = 1 ∨ p = 2 ∨ p = 3 ∨ p = 4 ∨ p = 5 ∨ p = 6 by omega) with rfl | rfl | rfl | rfl | rfl | rfl | rfl
  · exact h.sub [3, 4, 5, 6] rfl
  · exact h.sub [7, 8, 9, 10] rfl
  · exact h.sub [11, 12, 13, 14] rfl
  · exact h.sub [15, 16, 17, 18] rfl
  · exact h.sub [19, 20, 21, 22] rfl
  · exact h.sub [23, 24, 25, 26] rfl
  · exact h.sub [27, 28, 29, 30] rfl
theorem rc_cell {D : va_G} {k : Nat → ClassId} {a : Nat → Nat} {R : RcV} {H : Heap} {p : Nat} (hp : p < 7) (h : va_P D vwCl (rcW k a R) H) : va_P D vwCl (cellsW k (fun j => a (26 + (3 + 4 * p + j))) (R.2.2.2.2.1.2.2.2.2.2.2 p)) H :=
  st_cell (a := fun j => a (26 + j)) hp (h.sub (ws' := storeW k (fun j => a (26 + j)) R.2.2.2.2.1) [26, 27, 28, 29, 30, 31, 32, 33, 34, 35, 36, 37, 38, 39, 40, 41, 42, 43, 44, 45, 46, 47, 48, 49, 50, 51, 52, 53, 54, 55, 56] rfl)
theorem im0 {i : Int32} (h : i = 0) : i.toNatClampNeg = 0 := by rw [h]; decide
theorem im1 {i : Int32} (h : ix i 2 = true) (h0 : ¬ i = 0) : i.toNatClampNeg = 1 := by
  obtain ⟨j, hj, rfl⟩ := vp_in_of (ix_in h) (by decide)
  rcases (show j = 0 ∨ j = 1 by omega) with rfl | rfl
  · exact absurd rfl h0
  · decide
theorem st_at {k : Nat → ClassId} {a : Nat → Nat} {T : StoreV} {p : Nat} (hp : p < 7) : ∃ vs : List Value, (storeW k a T)[3 + 4 * p]? = some (a (3 + 4 * p), .inr (0, vs)) := by
  rcases (show p = 0 ∨ p = 1 ∨ p = 2 ∨ p = 3 ∨ p = 4 ∨ p = 5 ∨ p = 6 by omega) with rfl | rfl | rfl | rfl | rfl | rfl | rfl <;> exact ⟨_, rfl⟩
theorem st_up (a f : Nat → Nat) (n p : Nat) : va_up (fun j => some (a (3 + 4 * f j))) n (some (a (3 + 4 * p))) = fun j => some (a (3 + 4 * va_up f n p j)) := by
  funext j
  by_cases h : j = n
  · subst h; rw [va_up_self, va_up_self]
  · rw [va_up_ne _ _ h, va_up_ne _ _ h]
theorem st_aast {p : Program} {l : Launch} {e : Env} {R : Room} {s : State} {m : MethodId} {args : Array Value} {below : List Frame} {meth : Method} {c : Code} {H : Heap} {locs : List Loc} {cells slots : Nat} {Q : State → Prop} {cc : ByteArray} {pc : Nat} {ls : Array Slot} {rest : List Value} {D : va_G} {A : Nat → Prop} {H0 : Heap} {k : Nat → ClassId} {a : Nat → Nat} {T : StoreV} {p9 : Nat} {i : Int32} (hx : p.tables.exec = Jvm.exec) (hb : c.code = cc) (hK : va_K D vwCl (ty5 k) s) (hP : va_P D vwCl (storeW k a T) H) (hD : va_D A (storeW k a T)) (hS : va_S A H0 H locs) (hp : p9 < 7) (hin : vp_in i 6) (hdg : decode cc pc = .ok (.aastore, 1))
    (kk : ∀ (H1 : Heap) (locs1 : List Loc), va_P D vwCl (storeW k a (va_up T.1 i.toNatClampNeg p9, T.2)) H1 → va_D A (storeW k a (va_up T.1 i.toNatClampNeg p9, T.2)) → va_S A H0 H1 locs1 → W p l e R s m args below meth c H1 locs1 cells slots Q (F0 m (pc + 1) ls rest)) : W p l e R s m args below meth c H locs cells slots Q (F0 m pc ls (.ref (a (3 + 4 * p9)) :: .int i :: .ref (a 1) :: rest)) := by
  obtain ⟨vs, hv⟩ := st_at (k := k) (a := a) (T := T) hp
  refine va_astq (D := D) (r := (RX0, TX0, 4)) hx hb hK hP hD hS 1 3 (3 + 4 * p9) 0 rfl rfl hv rfl hin hdg (fun H1 locs1 h1 h2 h3 => ?_)
  rw [st_up] at h1 h2
  exact kk H1 locs1 h1 h2 h3
/-- a part of the store that Cells.workOut gets: one of the Cells, the scene, the row of what is left -/
theorem st_work {A : Nat → Prop} {k : Nat → ClassId} {a b : Nat → Nat} {T : StoreV} {S : SceneV} {V : CellV} {L : Nat → Int32} {p : Nat} (hp : p < 7) : Sp A (storeW k a T ++ sceneW k b S) (cellsW k (fun j => a (3 + 4 * p + j)) (T.2.2.2.2.2.2 p) ++ (sceneW k b S ++ arrW k (fun j => a (2 + j)) 256 T.2.2.2.2.2.1)) (storeW k a (T.1, T.2.1, T.2.2.1, T.2.2.2.1, T.2.2.2.2.1, L, va_up T.2.2.2.2.2.2 p V) ++ sceneW k b S) (cellsW k (fun j => a (3 + 4 * p + j)) V ++ (sceneW k b S ++ arrW k (fun j => a (2 + j)) 256 L)) := by
  rcases (show p = 0 ∨ p = 1 ∨ p = 2 ∨ p = 3 ∨ p = 4 ∨ p = 5 ∨ p = 6 by omega) with rfl | rfl | rfl | rfl | rfl | rfl | rfl
  · exact Sp.idx (N := 39) [3, 4, 5, 6, 31, 32, 33, 34, 35, 36, 37, 38, 2] [0, 1, 7, 8, 9, 10, 11, 12, 13, 14, 15, 16, 17, 18, 19, 20, 21, 22, 23, 24, 25, 26, 27, 28, 29, 30] (by decide) rfl rfl rfl (Nat.le_of_ble_eq_true rfl) (by decide) (by decide) rfl
  · exact Sp.idx (N := 39) [7, 8, 9, 10, 31, 32, 33, 34, 35, 36, 37, 38, 2] [0, 1, 3, 4, 5, 6, 11, 12, 13, 14, 15, 16, 17, 18, 19, 20, 21, 22, 23, 24, 25, 26, 27, 28, 29, 30] (by decide) rfl rfl rfl (Nat.le_of_ble_eq_true rfl) (by decide) (by decide) rfl
  · exact Sp.idx (N := 39) [11, 12, 13, 14, 31, 32, 33, 34, 35, 36, 37, 38, 2] [0, 1, 3, 4, 5, 6, 7, 8, 9, 10, 15, 16, 17, 18, 19, 20, 21, 22, 23, 24, 25, 26, 27, 28, 29, 30] (by decide) rfl rfl rfl (Nat.le_of_ble_eq_true rfl) (by decide) (by decide) rfl
  · exact Sp.idx (N := 39) [15, 16, 17, 18, 31, 32, 33, 34, 35, 36, 37, 38, 2] [0, 1, 3, 4, 5, 6, 7, 8, 9, 10, 11, 12, 13, 14, 19, 20, 21, 22, 23, 24, 25, 26, 27, 28, 29, 30] (by decide) rfl rfl rfl (Nat.le_of_ble_eq_true rfl) (by decide) (by decide) rfl
  · exact Sp.idx (N := 39) [19, 20, 21, 22, 31, 32, 33, 34, 35, 36, 37, 38, 2] [0, 1, 3, 4, 5, 6, 7, 8, 9, 10, 11, 12, 13, 14, 15, 16, 17, 18, 23, 24, 25, 26, 27, 28, 29, 30] (by decide) rfl rfl rfl (Nat.le_of_ble_eq_true rfl) (by decide) (by decide) rfl
  · exact Sp.idx (N := 39) [23, 24, 25, 26, 31, 32, 33, 34, 35, 36, 37, 38, 2] [0, 1, 3, 4, 5, 6, 7, 8, 9, 10, 11, 12, 13, 14, 15, 16, 17, 18, 19, 20, 21, 22, 27, 28, 29, 30] (by decide) rfl rfl rfl (Nat.le_of_ble_eq_true rfl) (by decide) (by decide) rfl
  · exact Sp.idx (N := 39) [27, 28, 29, 30, 31, 32, 33, 34, 35, 36, 37, 38, 2] [0, 1, 3, 4, 5, 6, 7, 8, 9, 10, 11, 12, 13, 14, 15, 16, 17, 18, 19, 20, 21, 22, 23, 24, 25, 26] (by decide) rfl rfl rfl (Nat.le_of_ble_eq_true rfl) (by decide) (by decide) rfl
