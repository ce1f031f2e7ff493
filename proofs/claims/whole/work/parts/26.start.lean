/-! written by wip/whole/start.py -/
/-- the pure fact that the claim rests on -/
def PureFact : Prop := ∀ (xs : Nat → Int32) (L : Nat), L ≤ 2560 → ∃ (C0 : CellV) (S0 : SceneV) (M0 : ModelV), f_X0_init = some C0 ∧ f_X1_init = some S0 ∧ f_X5_init = some M0 ∧ f_law xs L (S0, S0, S0, (0 : Int32), ((fun j => j + 1), (0 : Int32), (0 : Int32), (0 : Int32), (0 : Int32), (fun _ => (0 : Int32)), (fun _ => C0)), ((1000000000 : Int32), (0 : Int32), (0 : Int32), C0, (fun _ => (0 : Int32)), (fun _ => (0 : Int32)), (fun _ => (0 : Int32)), (fun _ => (0 : Int32)))) M0 = some ()
set_option maxHeartbeats 8000000 in
set_option maxRecDepth 100000 in
theorem whole_start_open (hpf : PureFact) {p : Program} {e : Env} {s : State} {m : MethodId} {below : List Frame} {meth : Method} {c : Code} (l : Launch) {b L : Nat} {xs : Nat → Int32} (hL : L ≤ 2560) (C0 : lw_At p s m meth c b L xs) : W p l e room_1 s m #[Value.ref b] below meth c s.heap [] 0 0 (lw_Z below #[Value.ref b] s) (entryFrame m ([Value.ref b] : List Value).toArray 4) := by
  have C1 := C0
  obtain ⟨hx, hb, hr, hml, hown, hts, hX, hbl, hlocks, hgv⟩ := C0
  have hown : s.vm.findClass RL = some m.cls := hown
  obtain ⟨C0, S0, M0, hC0, hS0, hM0, hlaw⟩ := hpf xs L hL
  obtain ⟨c0, i0, hKn0⟩ := u_known (C := RX0) (T := TX0) (N := 4) (n := 4) hts inX0 (hts (.instantiable RX0 4) (by decide +kernel))
  obtain ⟨c1, i1, hKn1⟩ := u_known (C := RX1) (T := TX1) (N := 8) (n := 8) hts inX1 (hts (.instantiable RX1 8) (by decide +kernel))
  obtain ⟨c2, i2, hKn2⟩ := u_known (C := RX2) (T := TX2) (N := 8) (n := 8) hts inX2 (hts (.instantiable RX2 8) (by decide +kernel))
  obtain ⟨c3, i3, hKn3⟩ := u_known (C := RX3) (T := TX3) (N := 7) (n := 7) hts inX3 (hts (.instantiable RX3 7) (by decide +kernel))
  obtain ⟨c4, i4, hKn4⟩ := u_known (C := RX4) (T := TX4) (N := 5) (n := 5) hts inX4 (hts (.instantiable RX4 5) (by decide +kernel))
  obtain ⟨c5, i5, hKn5⟩ := u_known (C := RX5) (T := TX5) (N := 19) (n := 19) hts inX5 (hts (.instantiable RX5 19) (by decide +kernel))
  obtain ⟨D, hKc⟩ : ∃ D : va_G, ∀ (k : Nat) (q : vw_C), vwCl[k]? = some q → u_Kn s q.1 q.2.1 q.2.2 (D.1 k) (D.2 k) := by
    refine ⟨(fun k => if k = 0 then c0 else if k = 1 then c1 else if k = 2 then c2 else if k = 3 then c3 else if k = 4 then c4 else c5, fun k => if k = 0 then i0 else if k = 1 then i1 else if k = 2 then i2 else if k = 3 then i3 else if k = 4 then i4 else i5), ?_⟩
    intro k q hq
    match k, hq with
    | 0, hq => cases hq; exact hKn0
    | 1, hq => cases hq; exact hKn1
    | 2, hq => cases hq; exact hKn2
    | 3, hq => cases hq; exact hKn3
    | 4, hq => cases hq; exact hKn4
    | 5, hq => cases hq; exact hKn5
    | k + 6, hq => simp [vwCl] at hq
  obtain ⟨k0, q0, p0, a0, b0, d0⟩ := Cond.arrayClass_spec (hts (.arrayClass .int) (by decide +kernel))
  obtain ⟨k1, q1, p1, a1, b1, d1⟩ := Cond.arrayClass_spec (hts (.arrayClass .long) (by decide +kernel))
  obtain ⟨k2, q2, p2, a2, b2, d2⟩ := Cond.arrayClass_spec (hts (.arrayClass .boolean) (by decide +kernel))
  have hO3 := hts (.arrayOver (.object "RainCells$Cells")) (by decide +kernel)
  obtain ⟨p3, k3, q3, e3, -, b3, d3, a3⟩ := Cond.arrayOver_spec hO3
  have hO4 := hts (.arrayOver (.object "RainCells$Scene")) (by decide +kernel)
  obtain ⟨p4, k4, q4, e4, -, b4, d4, a4⟩ := Cond.arrayOver_spec hO4
  obtain ⟨k, hk0, hk1, hk2, hk3, hk4⟩ : ∃ k : Nat → ClassId, k 0 = k0 ∧ k 1 = k1 ∧ k 2 = k2 ∧ k 3 = k3 ∧ k 4 = k4 := ⟨fun i => if i = 0 then k0 else if i = 1 then k1 else if i = 2 then k2 else if i = 3 then k3 else k4, rfl, rfl, rfl, rfl, rfl⟩
  have hK : va_K D vwCl (ty5 k) s := by
    refine ⟨hKc, fun j q hq => ?_⟩
    match j, hq with
    | 0, hq => cases hq; rw [hk0]; exact ⟨fun _ _ => ⟨(fun _ h => by cases h), q0, b0, p0, d0⟩, a0⟩
    | 1, hq => cases hq; rw [hk1]; exact ⟨fun _ _ => ⟨(fun _ h => by cases h), q1, b1, p1, d1⟩, a1⟩
    | 2, hq => cases hq; rw [hk2]; exact ⟨fun _ _ => ⟨(fun _ h => by cases h), q2, b2, p2, d2⟩, a2⟩
    | 3, hq => cases hq; rw [hk3]; exact ⟨fun _ _ => ⟨(fun _ h => by cases h), q3, b3, p3, d3⟩, q3, p3, b3, d3, e3, a3⟩
    | 4, hq => cases hq; rw [hk4]; exact ⟨fun _ _ => ⟨(fun _ h => by cases h), q4, b4, p4, d4⟩, q4, p4, b4, d4, e4, a4⟩
    | j + 5, hq => simp [ty5] at hq
  have hN : NN s := ⟨va_Nw.of rfl (hts (.methodLinkNest RX4 33 yX2_init "RainCells") (by decide +kernel)), va_Nw.of rfl (hts (.methodLinkNest RX0 31 yX4_isIn "RainCells") (by decide +kernel)), va_Nw.of rfl (hts (.methodLinkNest RX0 54 yX4_isPlot "RainCells") (by decide +kernel)), va_Nw.of rfl (hts (.methodLinkNest RX0 64 yX4_without "RainCells") (by decide +kernel)), va_Nw.of rfl (hts (.methodLinkNest RX0 67 yX4_with "RainCells") (by decide +kernel)), va_Nw.of rfl (hts (.methodLinkNest RX1 60 yX4_with "RainCells") (by decide +kernel))⟩
  have hA1 : va_AO "RainCells$Cells" s := va_AO.of hO3
  have hA2 : va_AO "RainCells$Scene" s := va_AO.of hO4
  have hts := fun w h => hts w (wsL_law_in w h)
  have hA : ∀ q : Nat, s.heap.size ≤ q → (fun q : Nat => s.heap.size ≤ q) q := fun _ h => h
  have hS : va_S (fun q : Nat => s.heap.size ≤ q) s.heap s.heap [] := va_S.rf
  have hP : va_P D vwCl [] s.heap := va_P_nil
  have hD : va_D (fun q : Nat => s.heap.size ≤ q) [] := ⟨fun i j p q h => by simp at h, fun k q h => by simp at h⟩
  have hl := lv_entry ([.ref b]) (n := 4) (Nat.le_of_ble_eq_true rfl)
  rw [lg_entry_eq]
  generalize (lg_sl ([.ref b]) ++ List.replicate (4 - (lg_sl ([.ref b])).length) Slot.unset).toArray = ls at hl ⊢
  have hl : lv_has ls 4 [(0, .ref b)] := hl
  refine va_new (ci := 4) (fs := [.null, .null, .int 0, .null, .null]) (C := RX4) (T := TX4) (N := 5) hx hb hts inlX4 tyX4 tyX4_ok hown (hts (.classLink RL 7 RX4) (by decide +kernel)) (hts (.instantiable RX4 5) (by decide +kernel)) (hts (.initialized RX4) (by decide +kernel)) hK hP hD hS hA rfl (fun j hj => by rcases (show j = 0 ∨ j = 1 ∨ j = 2 ∨ j = 3 ∨ j = 4 by omega) with rfl | rfl | rfl | rfl | rfl <;> rfl) (Nat.le_of_ble_eq_true rfl) (Nat.le_of_ble_eq_true rfl) dL_law_0 (fun q1 H hP hD hS => ?_)
  have hP : va_P D vwCl ([(q1, .inr (4, [.null, .null, .int 0, .null, .null]))]) H := hP
  have hD : va_D (fun q : Nat => s.heap.size ≤ q) ([(q1, .inr (4, [.null, .null, .int 0, .null, .null]))]) := hD
  refine lv_dup hx hb dL_law_3 rfl ?_
  refine cI (rest := [.ref q1]) (wr := []) hx hb hml hown hts hK hN hA1 hA2 hl.1 hP hD hS hA [0] [] rfl rfl (by decide) (by decide) (c_X4_init l D k q1 H.size S0 C0 hS0 hC0) (cwI 0 hts ggL_law_X4_init rfl rfl rfl (hts (.initialized RX4) (by decide +kernel)) (hts (.methodLink RL 9 yX4_init) (by decide +kernel)) (hts (.instanceMethod yX4_init) (by decide +kernel)) rfl (by decide +kernel) ⟨Nat.le_of_ble_eq_true rfl, Nat.le_of_ble_eq_true rfl⟩) (Nat.le_of_ble_eq_true rfl) dL_law_4 ⟨Nat.le_of_ble_eq_true rfl, Nat.le_of_ble_eq_true rfl⟩ (fun a H locs e9 hPn hDn hS => ?_)
  subst e9
  have hP := hPn
  have hD := hDn
  have hP : va_P D vwCl (rcW k a (S0, S0, S0, (0 : Int32), ((fun j => j + 1), (0 : Int32), (0 : Int32), (0 : Int32), (0 : Int32), (fun _ => (0 : Int32)), (fun _ => C0)), ((1000000000 : Int32), (0 : Int32), (0 : Int32), C0, (fun _ => (0 : Int32)), (fun _ => (0 : Int32)), (fun _ => (0 : Int32)), (fun _ => (0 : Int32))))) H := hP
  have hD : va_D (fun q : Nat => s.heap.size ≤ q) (rcW k a (S0, S0, S0, (0 : Int32), ((fun j => j + 1), (0 : Int32), (0 : Int32), (0 : Int32), (0 : Int32), (fun _ => (0 : Int32)), (fun _ => C0)), ((1000000000 : Int32), (0 : Int32), (0 : Int32), C0, (fun _ => (0 : Int32)), (fun _ => (0 : Int32)), (fun _ => (0 : Int32)), (fun _ => (0 : Int32))))) := hD
  refine lv_astore_n (lv' := [(1, .ref (a 0)), (0, .ref b)]) hx hb dL_law_7 rfl hl (by decide) rfl (fun ls hl => ?_)
  refine va_new (ci := 5) (fs := [.null, .null, .int 0, .null, .null, .null, .null, .null, .null, .int 0, .int 0, .int 0, .int 0, .null, .null, .null, .null, .null, .null]) (C := RX5) (T := TX5) (N := 19) hx hb hts inlX5 tyX5 tyX5_ok hown (hts (.classLink RL 10 RX5) (by decide +kernel)) (hts (.instantiable RX5 19) (by decide +kernel)) (hts (.initialized RX5) (by decide +kernel)) hK hP hD hS hA rfl (fun j hj => by rcases (show j = 0 ∨ j = 1 ∨ j = 2 ∨ j = 3 ∨ j = 4 ∨ j = 5 ∨ j = 6 ∨ j = 7 ∨ j = 8 ∨ j = 9 ∨ j = 10 ∨ j = 11 ∨ j = 12 ∨ j = 13 ∨ j = 14 ∨ j = 15 ∨ j = 16 ∨ j = 17 ∨ j = 18 by omega) with rfl | rfl | rfl | rfl | rfl | rfl | rfl | rfl | rfl | rfl | rfl | rfl | rfl | rfl | rfl | rfl | rfl | rfl | rfl <;> rfl) (Nat.le_of_ble_eq_true rfl) (Nat.le_of_ble_eq_true rfl) dL_law_8 (fun q2 H hP hD hS => ?_)
  have hP : va_P D vwCl (rcW k a (S0, S0, S0, (0 : Int32), ((fun j => j + 1), (0 : Int32), (0 : Int32), (0 : Int32), (0 : Int32), (fun _ => (0 : Int32)), (fun _ => C0)), ((1000000000 : Int32), (0 : Int32), (0 : Int32), C0, (fun _ => (0 : Int32)), (fun _ => (0 : Int32)), (fun _ => (0 : Int32)), (fun _ => (0 : Int32)))) ++ [(q2, .inr (5, [.null, .null, .int 0, .null, .null, .null, .null, .null, .null, .int 0, .int 0, .int 0, .int 0, .null, .null, .null, .null, .null, .null]))]) H := hP
  have hD : va_D (fun q : Nat => s.heap.size ≤ q) (rcW k a (S0, S0, S0, (0 : Int32), ((fun j => j + 1), (0 : Int32), (0 : Int32), (0 : Int32), (0 : Int32), (fun _ => (0 : Int32)), (fun _ => C0)), ((1000000000 : Int32), (0 : Int32), (0 : Int32), C0, (fun _ => (0 : Int32)), (fun _ => (0 : Int32)), (fun _ => (0 : Int32)), (fun _ => (0 : Int32)))) ++ [(q2, .inr (5, [.null, .null, .int 0, .null, .null, .null, .null, .null, .null, .int 0, .int 0, .int 0, .int 0, .null, .null, .null, .null, .null, .null]))]) := hD
  refine lv_dup hx hb dL_law_11 rfl ?_
  refine cI (rest := [.ref q2]) (wr := rcW k a (S0, S0, S0, (0 : Int32), ((fun j => j + 1), (0 : Int32), (0 : Int32), (0 : Int32), (0 : Int32), (fun _ => (0 : Int32)), (fun _ => C0)), ((1000000000 : Int32), (0 : Int32), (0 : Int32), C0, (fun _ => (0 : Int32)), (fun _ => (0 : Int32)), (fun _ => (0 : Int32)), (fun _ => (0 : Int32))))) hx hb hml hown hts hK hN hA1 hA2 hl.1 hP hD hS hA [66] [0, 1, 2, 3, 4, 5, 6, 7, 8, 9, 10, 11, 12, 13, 14, 15, 16, 17, 18, 19, 20, 21, 22, 23, 24, 25, 26, 27, 28, 29, 30, 31, 32, 33, 34, 35, 36, 37, 38, 39, 40, 41, 42, 43, 44, 45, 46, 47, 48, 49, 50, 51, 52, 53, 54, 55, 56, 57, 58, 59, 60, 61, 62, 63, 64, 65] rfl rfl (by decide) (by decide) (c_X5_init l D k q2 H.size M0 hM0) (cwI 0 hts ggL_law_X5_init rfl rfl rfl (hts (.initialized RX5) (by decide +kernel)) (hts (.methodLink RL 12 yX5_init) (by decide +kernel)) (hts (.instanceMethod yX5_init) (by decide +kernel)) rfl (by decide +kernel) ⟨Nat.le_of_ble_eq_true rfl, Nat.le_of_ble_eq_true rfl⟩) (Nat.le_of_ble_eq_true rfl) dL_law_12 ⟨Nat.le_of_ble_eq_true rfl, Nat.le_of_ble_eq_true rfl⟩ (fun b2 H locs e9 hPn hDn hS => ?_)
  subst e9
  have hP := hPn
  have hD := hDn
  have hP : va_P D vwCl (rcW k a (S0, S0, S0, (0 : Int32), ((fun j => j + 1), (0 : Int32), (0 : Int32), (0 : Int32), (0 : Int32), (fun _ => (0 : Int32)), (fun _ => C0)), ((1000000000 : Int32), (0 : Int32), (0 : Int32), C0, (fun _ => (0 : Int32)), (fun _ => (0 : Int32)), (fun _ => (0 : Int32)), (fun _ => (0 : Int32)))) ++ modelW k b2 M0) H := hP
  have hD : va_D (fun q : Nat => s.heap.size ≤ q) (rcW k a (S0, S0, S0, (0 : Int32), ((fun j => j + 1), (0 : Int32), (0 : Int32), (0 : Int32), (0 : Int32), (fun _ => (0 : Int32)), (fun _ => C0)), ((1000000000 : Int32), (0 : Int32), (0 : Int32), C0, (fun _ => (0 : Int32)), (fun _ => (0 : Int32)), (fun _ => (0 : Int32)), (fun _ => (0 : Int32)))) ++ modelW k b2 M0) := hD
  refine lv_astore_n (lv' := [(2, .ref (b2 0)), (1, .ref (a 0)), (0, .ref b)]) hx hb dL_law_15 rfl hl (by decide) rfl (fun ls hl => ?_)
  refine lv_iconst (v := 0) hx hb dL_law_16 (by decide) ?_
  refine lv_istore_n (lv' := [(3, .int 0), (2, .ref (b2 0)), (1, .ref (a 0)), (0, .ref b)]) hx hb dL_law_17 rfl hl (by decide) rfl (fun ls hl => ?_)
  refine W.widen (k := 81) (n := 8057) (Nat.le_of_ble_eq_true rfl) (Nat.le_of_ble_eq_true rfl) ?_
  refine law_loop C1 hK hN (fun ls H locs hS => ?_) (0, (S0, S0, S0, (0 : Int32), ((fun j => j + 1), (0 : Int32), (0 : Int32), (0 : Int32), (0 : Int32), (fun _ => (0 : Int32)), (fun _ => C0)), ((1000000000 : Int32), (0 : Int32), (0 : Int32), C0, (fun _ => (0 : Int32)), (fun _ => (0 : Int32)), (fun _ => (0 : Int32)), (fun _ => (0 : Int32)))), M0) hlaw ls H locs (lv_sub hl [3, 2, 1, 0] rfl) hP hD hS
  refine lv_iconst (v := 1) hx hb dL_law_992 (by decide) ?_
  refine va_forget (fun q hq => hS.2.2 q hq) ?_
  refine W.widen (k := 600000) (n := 7302250) (Nat.le_of_ble_eq_true rfl) (Nat.le_of_ble_eq_true rfl) ?_
  exact lw_ret hx hb hr hlocks dL_law_993
