/-! written by wip/whole/gen.py -/
abbrev rm_X4_rainOfOthers : Room := { frames := 1, cells := 0, slots := 0, locals := 22 }
def f_X4_rainOfOthers_L6 (R : RcV) (y1 : Int32) (y2 : Int32) (p3 : Nat) (p4 : Nat) (z : Int32 × Int32) : Option ((Int32 × Int32) ⊕ (Int32)) := if 256 ≤ z.2 then (some (.inr z.1)) else (gd (decide (p4 < 7)) (gd (ix z.2 256) (gd (decide (p3 < 7)) (gd (ix z.2 256) ((if (((R.2.2.2.2.1).2.2.2.2.2.2 p3).2.1 (z.2 : Int32).toNatClampNeg) = y2 then (if (((R.2.2.2.2.1).2.2.2.2.2.2 p4).2.1 (z.2 : Int32).toNatClampNeg) = (-1) then (some z.1) else ((f_X1_readingOf R.1 (((R.2.2.2.2.1).2.2.2.2.2.2 p4).2.1 (z.2 : Int32).toNatClampNeg) y1).bind (fun x11 => some (z.1 + x11)))) else (some z.1) : Option (Int32)).bind (fun x6 => some (.inl (x6, (z.2 + 1)))))))))
def f_X4_rainOfOthers (R : RcV) (y1 : Int32) (y2 : Int32) (p3 : Nat) (p4 : Nat) : Option (Int32) := (lp (f_X4_rainOfOthers_L6 R y1 y2 p3 p4) fu (0, 0)).bind (fun x1 => some x1)
set_option maxHeartbeats 4000000 in
set_option maxRecDepth 100000 in
theorem c_X4_rainOfOthers (l : Launch) (D : va_G) (k : Nat → ClassId) (a : Nat → Nat) (R : RcV) (y1 : Int32) (y2 : Int32) (p3 : Nat) (p4 : Nat) (r : Int32) (h : f_X4_rainOfOthers R y1 y2 p3 p4 = some r) : Met l yX4_rainOfOthers wsX4_rainOfOthers rm_X4_rainOfOthers (va_Pc [.ref (a 0), .int y1, .int y2, .ref (a (26 + (3 + 4 * p3))), .ref (a (26 + (3 + 4 * p4)))] (RB D k (rcW k a R))) (QR (some (.int r))) 0 0 (fun _ => False) := by
  refine met_Ri (by decide) rfl (Nat.le_of_ble_eq_true rfl) ?_
  intro p e s m below meth c Q args ls hx hb hml hown hts hP hK hN hl hQ
  have hl : lv_has ls 8 [(0, .ref (a 0)), (1, .int y1), (2, .int y2), (3, .ref (a (26 + (3 + 4 * p3)))), (4, .ref (a (26 + (3 + 4 * p4))))] := hl
  have hown : s.vm.findClass RX4 = some m.cls := hown
  unfold f_X4_rainOfOthers at h
  have hiRX0 : ∀ w ∈ u_ws RX0 TX0 4, w ∈ wsX4_rainOfOthers := by decide +kernel
  have hiRX4 : ∀ w ∈ u_ws RX4 TX4 5, w ∈ wsX4_rainOfOthers := by decide +kernel
  have hf227 := hts (.fieldLink RX4 227 "RainCells$Cells" "owners" "[I") (by decide +kernel)
  have hf12 := hts (.fieldLink RX4 12 "RainCells" "scene" "LRainCells$Scene;") (by decide +kernel)
  refine lv_iconst (v := 0) hx hb dX4_rainOfOthers_0 (by decide) ?_
  refine lv_istore (lv' := [(5, .int 0), (0, .ref (a 0)), (1, .int y1), (2, .int y2), (3, .ref (a (26 + (3 + 4 * p3)))), (4, .ref (a (26 + (3 + 4 * p4))))]) hx hb dX4_rainOfOthers_1 hl (by decide) rfl (fun ls hl => ?_)
  refine lv_iconst (v := 0) hx hb dX4_rainOfOthers_3 (by decide) ?_
  refine lv_istore (lv' := [(6, .int 0), (5, .int 0), (0, .ref (a 0)), (1, .int y1), (2, .int y2), (3, .ref (a (26 + (3 + 4 * p3)))), (4, .ref (a (26 + (3 + 4 * p4))))]) hx hb dX4_rainOfOthers_4 hl (by decide) rfl (fun ls hl => ?_)
  obtain ⟨x1, h2, h⟩ := bd_s h
  have K20 : ∀ (ls : Array Slot), lv_has ls 8 [(5, .int x1)] → W p l e rm_X4_rainOfOthers s m args below meth c s.heap [] 0 0 Q (F0 m 62 ls []) := by
    intro ls hl
    refine lv_iload hx hb dX4_rainOfOthers_62 (lv_at hl 0 rfl) ?_
    obtain rfl := Option.some.inj h
    exact hQ _ _ dX4_rainOfOthers_64
  refine lp_W (P := fun z3 => ∀ (ls : Array Slot), lv_has ls 8 [(0, .ref (a 0)), (1, .int y1), (2, .int y2), (3, .ref (a (26 + (3 + 4 * p3)))), (4, .ref (a (26 + (3 + 4 * p4)))), (5, .int z3.1), (6, .int z3.2)] → W p l e rm_X4_rainOfOthers s m args below meth c s.heap [] 0 0 Q (F0 m 6 ls [])) (E := fun x1 => ∀ (ls : Array Slot), lv_has ls 8 [(5, .int x1)] → W p l e rm_X4_rainOfOthers s m args below meth c s.heap [] 0 0 Q (F0 m 62 ls [])) (fun z3 xx5 hB4 kI6 kE7 => ?_) _ _ _ h2 K20 ls (lv_sub hl [2, 3, 4, 5, 6, 1, 0] rfl)
  intro ls hl
  unfold f_X4_rainOfOthers_L6 at hB4
  refine lv_iload hx hb dX4_rainOfOthers_6 (lv_at hl 6 rfl) ?_
  refine lv_sipush (v := 256) hx hb dX4_rainOfOthers_8 (by decide) ?_
  refine lv_icmp_ge (tgt := 62) hx hb dX4_rainOfOthers_11 (by decide) (fun c8 => ?_) (fun c8 => ?_)
  · have hB4 := if_t hB4 c8
    exact kE7 _ (Option.some.inj hB4).symm ls (lv_sub hl [5] rfl)
  · have hB4 := if_f hB4 c8
    refine lv_aload hx hb dX4_rainOfOthers_14 (lv_at hl 4 rfl) ?_
    obtain ⟨c9, hB4⟩ := gd_s hB4
    refine va_get (D := D) (ci := 0) (v := .ref (a (26 + (3 + 4 * p4 + 1)))) (C := RX0) (T := TX0) (N := 4) hx hb hts hiRX0 hown hK (rc_cell (of_decide_eq_true c9) (hP)) 0 rfl rfl 1 (by decide) hf227 (fun _ h9 => h9) rfl dX4_rainOfOthers_16 ?_
    refine lv_iload hx hb dX4_rainOfOthers_19 (lv_at hl 6 rfl) ?_
    obtain ⟨c10, hB4⟩ := gd_s hB4
    refine va_iald (D := D) hx hb hK (rc_cell (of_decide_eq_true c9) (hP)) 1 0 rfl rfl (ix_in c10) dX4_rainOfOthers_21 ?_
    refine lv_istore (lv' := [(7, .int (((R.2.2.2.2.1).2.2.2.2.2.2 p4).2.1 (z3.2 : Int32).toNatClampNeg)), (0, .ref (a 0)), (1, .int y1), (2, .int y2), (3, .ref (a (26 + (3 + 4 * p3)))), (4, .ref (a (26 + (3 + 4 * p4)))), (5, .int z3.1), (6, .int z3.2)]) hx hb dX4_rainOfOthers_22 hl (by decide) rfl (fun ls hl => ?_)
    refine lv_aload_n hx hb dX4_rainOfOthers_24 rfl (lv_at hl 4 rfl) ?_
    obtain ⟨c11, hB4⟩ := gd_s hB4
    refine va_get (D := D) (ci := 0) (v := .ref (a (26 + (3 + 4 * p3 + 1)))) (C := RX0) (T := TX0) (N := 4) hx hb hts hiRX0 hown hK (rc_cell (of_decide_eq_true c11) (hP)) 0 rfl rfl 1 (by decide) hf227 (fun _ h9 => h9) rfl dX4_rainOfOthers_25 ?_
    refine lv_iload hx hb dX4_rainOfOthers_28 (lv_at hl 7 rfl) ?_
    obtain ⟨c12, hB4⟩ := gd_s hB4
    refine va_iald (D := D) hx hb hK (rc_cell (of_decide_eq_true c11) (hP)) 1 0 rfl rfl (ix_in c12) dX4_rainOfOthers_30 ?_
    refine lv_iload_n hx hb dX4_rainOfOthers_31 rfl (lv_at hl 3 rfl) ?_
    obtain ⟨x13, h14, hB4⟩ := bd_s hB4
    have K15 : ∀ (ls : Array Slot), lv_has ls 8 [(0, .ref (a 0)), (1, .int y1), (2, .int y2), (3, .ref (a (26 + (3 + 4 * p3)))), (4, .ref (a (26 + (3 + 4 * p4)))), (5, .int x13), (6, .int z3.2)] → W p l e rm_X4_rainOfOthers s m args below meth c s.heap [] 0 0 Q (F0 m 56 ls []) := by
      intro ls hl
      refine lv_iinc (v := (z3.2 + 1)) (lv' := [(6, .int (z3.2 + 1)), (0, .ref (a 0)), (1, .int y1), (2, .int y2), (3, .ref (a (26 + (3 + 4 * p3)))), (4, .ref (a (26 + (3 + 4 * p4)))), (5, .int x13)]) hx hb dX4_rainOfOthers_56 hl (k := 6) rfl rfl (by decide) rfl (fun ls hl => ?_)
      refine lv_goto (tgt := 6) hx hb dX4_rainOfOthers_59 (by decide) ?_
      exact kI6 _ (Option.some.inj hB4).symm ls (lv_sub hl [1, 2, 3, 4, 5, 6, 0] rfl)
    refine lv_icmp_ne (tgt := 56) hx hb dX4_rainOfOthers_32 (by decide) (fun c16 => ?_) (fun c16 => ?_)
    · have h14 := if_f h14 c16
      obtain rfl := Option.some.inj h14
      exact K15 ls (lv_sub hl [1, 2, 3, 4, 5, 6, 7] rfl)
    · have h14 := if_t h14 c16
      refine lv_iload hx hb dX4_rainOfOthers_35 (lv_at hl 0 rfl) ?_
      refine lv_iconst (v := (-1)) hx hb dX4_rainOfOthers_37 (by decide) ?_
      refine lv_icmp_eq (tgt := 56) hx hb dX4_rainOfOthers_38 (by decide) (fun c17 => ?_) (fun c17 => ?_)
      · have h14 := if_t h14 c17
        obtain rfl := Option.some.inj h14
        exact K15 ls (lv_sub hl [1, 2, 3, 4, 5, 6, 7] rfl)
      · have h14 := if_f h14 c17
        refine lv_iload hx hb dX4_rainOfOthers_41 (lv_at hl 6 rfl) ?_
        refine lv_aload_n hx hb dX4_rainOfOthers_43 rfl (lv_at hl 1 rfl) ?_
        refine va_get (D := D) (ci := 4) (v := .ref (a 2)) (C := RX4) (T := TX4) (N := 5) hx hb hts hiRX4 hown hK hP 0 rfl rfl 0 (by decide) hf12 (fun _ h9 => h9) rfl dX4_rainOfOthers_44 ?_
        refine lv_iload hx hb dX4_rainOfOthers_47 (lv_at hl 0 rfl) ?_
        refine lv_iload_n hx hb dX4_rainOfOthers_49 rfl (lv_at hl 2 rfl) ?_
        obtain ⟨x18, h19, h14⟩ := bd_s h14
        refine cR_V (As := [.int (((R.2.2.2.2.1).2.2.2.2.2.2 p4).2.1 (z3.2 : Int32).toNatClampNeg), .int y1]) (rest := [.int z3.1]) (n := 2) (v := .int x18) hx hb hml hown hts hK hN hl.1 (c_X1_readingOf l D k (fun j => a (2 + j)) R.1 (((R.2.2.2.2.1).2.2.2.2.2.2 p4).2.1 (z3.2 : Int32).toNatClampNeg) y1 x18 h19) gX4_rainOfOthers_X1_readingOf rfl (by decide +kernel) ⟨⟨rfl, rfl⟩, by decide, by decide⟩ (hP.sub (ws' := sceneW k (fun j => a (2 + j)) R.1) [2, 3, 4, 5, 6, 7, 8, 9] rfl) 0 1 rfl rfl rfl rfl rfl (Nat.le_of_ble_eq_true rfl) dX4_rainOfOthers_50 ⟨Nat.zero_le _, Nat.zero_le _⟩ ?_
        refine lv_iadd hx hb dX4_rainOfOthers_53 ?_
        refine lv_istore (lv' := [(5, .int (z3.1 + x18)), (7, .int (((R.2.2.2.2.1).2.2.2.2.2.2 p4).2.1 (z3.2 : Int32).toNatClampNeg)), (0, .ref (a 0)), (1, .int y1), (2, .int y2), (3, .ref (a (26 + (3 + 4 * p3)))), (4, .ref (a (26 + (3 + 4 * p4)))), (6, .int z3.2)]) hx hb dX4_rainOfOthers_54 hl (by decide) rfl (fun ls hl => ?_)
        obtain rfl := Option.some.inj h14
        exact K15 ls (lv_sub hl [2, 3, 4, 5, 6, 0, 7] rfl)

abbrev rm_X4_shared : Room := { frames := 3, cells := 0, slots := 0, locals := 80 }
def f_X4_shared (R : RcV) (y1 : Int32) (y2 : Int32) (y3 : Int32) : Option (Int32 × RcV) := (f_X1_knows R.1 y2).bind (fun x1 => if (b2i x1) = 0 then (some ((-1), R)) else ((f_X1_knows R.1 y3).bind (fun x4 => if (b2i x4) = 0 then (some ((-1), R)) else ((f_X4_isDay y1).bind (fun x7 => if (b2i x7) = 0 then (some ((-2), R)) else (if y2 = y3 then (some ((-2), R)) else ((f_X1_workingOn R.1 y1).bind (fun x11 => (f_X4_without x11 y2).bind (fun x13 => if x13 = 0 then (some ((-3), R)) else ((f_X4_with x11 y2).bind (fun x16 => (f_X3_lookUp R.2.2.2.2.1 R.1 x16).bind (fun x18 => (f_X4_without x11 y2).bind (fun x20 => (f_X3_lookUp x18.2 R.1 x20).bind (fun x22 => gd (decide (x18.1 < 7)) (gd (decide (x22.1 < 7)) ((f_X0_inBoth ((x22.2).2.2.2.2.2.2 x18.1) ((x22.2).2.2.2.2.2.2 x22.1) y2 y3).bind (fun x26 => some (x26, (R.1, R.2.1, R.2.2.1, R.2.2.2.1, x22.2, R.2.2.2.2.2)))))))))))))))))))
set_option maxHeartbeats 4000000 in
set_option maxRecDepth 100000 in
theorem c_X4_shared (l : Launch) (D : va_G) (k : Nat → ClassId) (a : Nat → Nat) (R : RcV) (y1 : Int32) (y2 : Int32) (y3 : Int32) (r : Int32 × RcV) (h : f_X4_shared R y1 y2 y3 = some r) : Met l yX4_shared wsX4_shared rm_X4_shared (va_Pc [.ref (a 0), .int y1, .int y2, .int y3] (MB D k (rcW k a R))) (QM D (rcW k a R) (rcW k a r.2) (some (.int r.1))) 0 0 (AD (rcW k a R)) := by
  refine met_Mi (by decide) rfl (Nat.le_of_ble_eq_true rfl) ?_
  intro p e s m below meth c Q args ls hx hb hml hown hts hP hK hN hD hl hQ
  have hl : lv_has ls 7 [(0, .ref (a 0)), (1, .int y1), (2, .int y2), (3, .int y3)] := hl
  have hown : s.vm.findClass RX4 = some m.cls := hown
  unfold f_X4_shared at h
  have hiRX4 : ∀ w ∈ u_ws RX4 TX4 5, w ∈ wsX4_shared := by decide +kernel
  have hf12 := hts (.fieldLink RX4 12 "RainCells" "scene" "LRainCells$Scene;") (by decide +kernel)
  have hf27 := hts (.fieldLink RX4 27 "RainCells" "store" "LRainCells$Store;") (by decide +kernel)
  generalize AD (rcW k a R) = A0 at hD hQ
  have hS : va_S A0 s.heap s.heap [] := va_S.rf
  refine lv_aload_n hx hb dX4_shared_0 rfl (lv_at hl 0 rfl) ?_
  refine va_get (D := D) (ci := 4) (v := .ref (a 2)) (C := RX4) (T := TX4) (N := 5) hx hb hts hiRX4 hown hK hP 0 rfl rfl 0 (by decide) hf12 (fun _ h9 => h9) rfl dX4_shared_1 ?_
  refine lv_iload_n hx hb dX4_shared_4 rfl (lv_at hl 2 rfl) ?_
  obtain ⟨x1, h2, h⟩ := bd_s h
  refine cR_V (As := [.int y2]) (rest := []) (n := 1) (v := .int (b2i x1)) hx hb hml hown hts hK hN hl.1 (c_X1_knows l D k (fun j => a (2 + j)) R.1 y2 x1 h2) gX4_shared_X1_knows rfl (by decide +kernel) ⟨⟨rfl, rfl⟩, by decide, by decide⟩ (hP.sub (ws' := sceneW k (fun j => a (2 + j)) R.1) [2, 3, 4, 5, 6, 7, 8, 9] rfl) 0 1 rfl rfl rfl rfl rfl (Nat.le_of_ble_eq_true rfl) dX4_shared_5 ⟨Nat.zero_le _, Nat.zero_le _⟩ ?_
  refine lv_if_eq (tgt := 22) hx hb dX4_shared_8 (by decide) (fun c3 => ?_) (fun c3 => ?_)
  · have h := if_t h c3
    refine lv_iconst (v := (-1)) hx hb dX4_shared_22 (by decide) ?_
    obtain rfl := Option.some.inj h
    exact hQ _ _ _ _ dX4_shared_23 hP hS
  · have h := if_f h c3
    refine lv_aload_n hx hb dX4_shared_11 rfl (lv_at hl 0 rfl) ?_
    refine va_get (D := D) (ci := 4) (v := .ref (a 2)) (C := RX4) (T := TX4) (N := 5) hx hb hts hiRX4 hown hK hP 0 rfl rfl 0 (by decide) hf12 (fun _ h9 => h9) rfl dX4_shared_12 ?_
    refine lv_iload_n hx hb dX4_shared_15 rfl (lv_at hl 3 rfl) ?_
    obtain ⟨x4, h5, h⟩ := bd_s h
    refine cR_V (As := [.int y3]) (rest := []) (n := 1) (v := .int (b2i x4)) hx hb hml hown hts hK hN hl.1 (c_X1_knows l D k (fun j => a (2 + j)) R.1 y3 x4 h5) gX4_shared_X1_knows rfl (by decide +kernel) ⟨⟨rfl, rfl⟩, by decide, by decide⟩ (hP.sub (ws' := sceneW k (fun j => a (2 + j)) R.1) [2, 3, 4, 5, 6, 7, 8, 9] rfl) 0 1 rfl rfl rfl rfl rfl (Nat.le_of_ble_eq_true rfl) dX4_shared_16 ⟨Nat.zero_le _, Nat.zero_le _⟩ ?_
    refine lv_if_ne (tgt := 24) hx hb dX4_shared_19 (by decide) (fun c6 => ?_) (fun c6 => ?_)
    · have h := if_f h c6
      refine lv_iload_n hx hb dX4_shared_24 rfl (lv_at hl 1 rfl) ?_
      obtain ⟨x7, h8, h⟩ := bd_s h
      refine cR_S (As := [.int y1]) (rest := []) (n := 1) (v := .int (b2i x7)) hx hb hml hown hts hK hN hl.1 (c_X4_isDay l D k y1 x7 h8) gX4_shared_X4_isDay rfl (by decide +kernel) ⟨⟨rfl, rfl⟩, by decide, by decide⟩ va_P_nil rfl rfl (Nat.le_of_ble_eq_true rfl) dX4_shared_25 ⟨Nat.zero_le _, Nat.zero_le _⟩ ?_
      refine lv_if_eq (tgt := 36) hx hb dX4_shared_28 (by decide) (fun c9 => ?_) (fun c9 => ?_)
      · have h := if_t h c9
        refine lv_bipush (v := (-2)) hx hb dX4_shared_36 (by decide) ?_
        obtain rfl := Option.some.inj h
        exact hQ _ _ _ _ dX4_shared_38 hP hS
      · have h := if_f h c9
        refine lv_iload_n hx hb dX4_shared_31 rfl (lv_at hl 2 rfl) ?_
        refine lv_iload_n hx hb dX4_shared_32 rfl (lv_at hl 3 rfl) ?_
        refine lv_icmp_ne (tgt := 39) hx hb dX4_shared_33 (by decide) (fun c10 => ?_) (fun c10 => ?_)
        · have h := if_f h c10
          refine lv_aload_n hx hb dX4_shared_39 rfl (lv_at hl 0 rfl) ?_
          refine va_get (D := D) (ci := 4) (v := .ref (a 2)) (C := RX4) (T := TX4) (N := 5) hx hb hts hiRX4 hown hK hP 0 rfl rfl 0 (by decide) hf12 (fun _ h9 => h9) rfl dX4_shared_40 ?_
          refine lv_iload_n hx hb dX4_shared_43 rfl (lv_at hl 1 rfl) ?_
          obtain ⟨x11, h12, h⟩ := bd_s h
          refine cR_V (As := [.int y1]) (rest := []) (n := 1) (v := .int x11) hx hb hml hown hts hK hN hl.1 (c_X1_workingOn l D k (fun j => a (2 + j)) R.1 y1 x11 h12) gX4_shared_X1_workingOn rfl (by decide +kernel) ⟨⟨rfl, rfl⟩, by decide, by decide⟩ (hP.sub (ws' := sceneW k (fun j => a (2 + j)) R.1) [2, 3, 4, 5, 6, 7, 8, 9] rfl) 0 1 rfl rfl rfl rfl rfl (Nat.le_of_ble_eq_true rfl) dX4_shared_44 ⟨Nat.zero_le _, Nat.zero_le _⟩ ?_
          refine lv_istore (lv' := [(4, .int x11), (0, .ref (a 0)), (1, .int y1), (2, .int y2), (3, .int y3)]) hx hb dX4_shared_47 hl (by decide) rfl (fun ls hl => ?_)
          refine lv_iload hx hb dX4_shared_49 (lv_at hl 0 rfl) ?_
          refine lv_iload_n hx hb dX4_shared_51 rfl (lv_at hl 3 rfl) ?_
          obtain ⟨x13, h14, h⟩ := bd_s h
          refine cR_S (As := [.int x11, .int y2]) (rest := []) (n := 2) (v := .int x13) hx hb hml hown hts hK hN hl.1 (c_X4_without l D k x11 y2 x13 h14) gX4_shared_X4_without rfl (by decide +kernel) ⟨⟨rfl, rfl⟩, by decide, by decide⟩ va_P_nil rfl rfl (Nat.le_of_ble_eq_true rfl) dX4_shared_52 ⟨Nat.zero_le _, Nat.zero_le _⟩ ?_
          refine lv_if_ne (tgt := 61) hx hb dX4_shared_55 (by decide) (fun c15 => ?_) (fun c15 => ?_)
          · have h := if_f h c15
            refine lv_aload_n hx hb dX4_shared_61 rfl (lv_at hl 1 rfl) ?_
            refine va_get (D := D) (ci := 4) (v := .ref (a 26)) (C := RX4) (T := TX4) (N := 5) hx hb hts hiRX4 hown hK hP 0 rfl rfl 3 (by decide) hf27 (fun _ h9 => h9) rfl dX4_shared_62 ?_
            refine lv_aload_n hx hb dX4_shared_65 rfl (lv_at hl 1 rfl) ?_
            refine va_get (D := D) (ci := 4) (v := .ref (a 2)) (C := RX4) (T := TX4) (N := 5) hx hb hts hiRX4 hown hK hP 0 rfl rfl 0 (by decide) hf12 (fun _ h9 => h9) rfl dX4_shared_66 ?_
            refine lv_iload hx hb dX4_shared_69 (lv_at hl 0 rfl) ?_
            refine lv_iload_n hx hb dX4_shared_71 rfl (lv_at hl 3 rfl) ?_
            obtain ⟨x16, h17, h⟩ := bd_s h
            refine cR_S (As := [.int x11, .int y2]) (rest := [.ref (a 2), .ref (a 26)]) (n := 2) (v := .int x16) hx hb hml hown hts hK hN hl.1 (c_X4_with l D k x11 y2 x16 h17) gX4_shared_X4_with rfl (by decide +kernel) ⟨⟨rfl, rfl⟩, by decide, by decide⟩ va_P_nil rfl rfl (Nat.le_of_ble_eq_true rfl) dX4_shared_72 ⟨Nat.zero_le _, Nat.zero_le _⟩ ?_
            obtain ⟨x18, h19, h⟩ := bd_s h
            refine cM_V (As := [.ref (a 2), .int x16]) (rest := []) (n := 2) (ov := (some (.ref (a (26 + (3 + 4 * x18.1)))))) (wc := storeW k (fun j => a (26 + j)) R.2.2.2.2.1 ++ (sceneW k (fun j => a (2 + j)) R.1)) (wc' := storeW k (fun j => a (26 + j)) x18.2 ++ (sceneW k (fun j => a (2 + j)) R.1)) (w1 := rcW k a (R.1, R.2.1, R.2.2.1, R.2.2.2.1, x18.2, R.2.2.2.2.2)) hx hb hml hown hts hK hN hl.1 hP hD hS rcs_st_sc (c_X3_lookUp l D k (fun j => a (26 + j)) (fun j => a (2 + j)) R.2.2.2.2.1 R.1 x16 x18 h19) gX4_shared_X3_lookUp rfl (by decide +kernel) ⟨⟨rfl, rfl⟩, by decide, by decide⟩ 0 3 rfl rfl rfl rfl rfl (Nat.le_of_ble_eq_true rfl) dX4_shared_75 ⟨Nat.zero_le _, Nat.zero_le _⟩ (fun H locs hP hD hS => ?_)
            show W p l e rm_X4_shared s m args below meth c H locs 0 0 Q (F0 m 78 ls [.ref (a (26 + (3 + 4 * x18.1)))])
            refine lv_astore (lv' := [(5, .ref (a (26 + (3 + 4 * x18.1)))), (4, .int x11), (0, .ref (a 0)), (1, .int y1), (2, .int y2), (3, .int y3)]) hx hb dX4_shared_78 hl (by decide) rfl (fun ls hl => ?_)
            refine lv_aload_n hx hb dX4_shared_80 rfl (lv_at hl 2 rfl) ?_
            refine va_get (D := D) (ci := 4) (v := .ref (a 26)) (C := RX4) (T := TX4) (N := 5) hx hb hts hiRX4 hown hK hP 0 rfl rfl 3 (by decide) hf27 (fun _ h9 => h9) rfl dX4_shared_81 ?_
            refine lv_aload_n hx hb dX4_shared_84 rfl (lv_at hl 2 rfl) ?_
            refine va_get (D := D) (ci := 4) (v := .ref (a 2)) (C := RX4) (T := TX4) (N := 5) hx hb hts hiRX4 hown hK hP 0 rfl rfl 0 (by decide) hf12 (fun _ h9 => h9) rfl dX4_shared_85 ?_
            refine lv_iload hx hb dX4_shared_88 (lv_at hl 1 rfl) ?_
            refine lv_iload_n hx hb dX4_shared_90 rfl (lv_at hl 4 rfl) ?_
            obtain ⟨x20, h21, h⟩ := bd_s h
            refine cR_S (As := [.int x11, .int y2]) (rest := [.ref (a 2), .ref (a 26)]) (n := 2) (v := .int x20) hx hb hml hown hts hK hN hl.1 (c_X4_without l D k x11 y2 x20 h21) gX4_shared_X4_without rfl (by decide +kernel) ⟨⟨rfl, rfl⟩, by decide, by decide⟩ va_P_nil rfl rfl (Nat.le_of_ble_eq_true rfl) dX4_shared_91 ⟨Nat.zero_le _, Nat.zero_le _⟩ ?_
            obtain ⟨x22, h23, h⟩ := bd_s h
            refine cM_V (As := [.ref (a 2), .int x20]) (rest := []) (n := 2) (ov := (some (.ref (a (26 + (3 + 4 * x22.1)))))) (wc := storeW k (fun j => a (26 + j)) x18.2 ++ (sceneW k (fun j => a (2 + j)) R.1)) (wc' := storeW k (fun j => a (26 + j)) x22.2 ++ (sceneW k (fun j => a (2 + j)) R.1)) (w1 := rcW k a (R.1, R.2.1, R.2.2.1, R.2.2.2.1, x22.2, R.2.2.2.2.2)) hx hb hml hown hts hK hN hl.1 hP hD hS rcs_st_sc (c_X3_lookUp l D k (fun j => a (26 + j)) (fun j => a (2 + j)) x18.2 R.1 x20 x22 h23) gX4_shared_X3_lookUp rfl (by decide +kernel) ⟨⟨rfl, rfl⟩, by decide, by decide⟩ 0 3 rfl rfl rfl rfl rfl (Nat.le_of_ble_eq_true rfl) dX4_shared_94 ⟨Nat.zero_le _, Nat.zero_le _⟩ (fun H locs hP hD hS => ?_)
            show W p l e rm_X4_shared s m args below meth c H locs 0 0 Q (F0 m 97 ls [.ref (a (26 + (3 + 4 * x22.1)))])
            refine lv_astore (lv' := [(6, .ref (a (26 + (3 + 4 * x22.1)))), (5, .ref (a (26 + (3 + 4 * x18.1)))), (4, .int x11), (0, .ref (a 0)), (1, .int y1), (2, .int y2), (3, .int y3)]) hx hb dX4_shared_97 hl (by decide) rfl (fun ls hl => ?_)
            refine lv_aload hx hb dX4_shared_99 (lv_at hl 1 rfl) ?_
            refine lv_iload_n hx hb dX4_shared_101 rfl (lv_at hl 5 rfl) ?_
            refine lv_aload hx hb dX4_shared_102 (lv_at hl 0 rfl) ?_
            refine lv_iload_n hx hb dX4_shared_104 rfl (lv_at hl 6 rfl) ?_
            obtain ⟨c24, h⟩ := gd_s h
            obtain ⟨c25, h⟩ := gd_s h
            obtain ⟨x26, h27, h⟩ := bd_s h
            refine cR_V (As := [.int y2, .ref (a (26 + (3 + 4 * x22.1))), .int y3]) (rest := []) (n := 3) (v := .int x26) hx hb hml hown hts hK hN hl.1 (c_X0_inBoth l D k (fun j => a (26 + (3 + 4 * x18.1 + j))) (fun j => a (26 + (3 + 4 * x22.1 + j))) ((x22.2).2.2.2.2.2.2 x18.1) ((x22.2).2.2.2.2.2.2 x22.1) y2 y3 x26 h27) gX4_shared_X0_inBoth rfl (by decide +kernel) ⟨⟨rfl, rfl⟩, by decide, by decide⟩ (va_P.app (rc_cell (of_decide_eq_true c24) (hP)) (rc_cell (of_decide_eq_true c25) (hP))) 0 0 rfl rfl rfl rfl rfl (Nat.le_of_ble_eq_true rfl) dX4_shared_105 ⟨Nat.zero_le _, Nat.zero_le _⟩ ?_
            obtain rfl := Option.some.inj h
            exact hQ _ _ _ _ dX4_shared_108 hP hS
          · have h := if_t h c15
            refine lv_bipush (v := (-3)) hx hb dX4_shared_58 (by decide) ?_
            obtain rfl := Option.some.inj h
            exact hQ _ _ _ _ dX4_shared_60 hP hS
        · have h := if_t h c10
          refine lv_bipush (v := (-2)) hx hb dX4_shared_36 (by decide) ?_
          obtain rfl := Option.some.inj h
          exact hQ _ _ _ _ dX4_shared_38 hP hS
    · have h := if_t h c6
      refine lv_iconst (v := (-1)) hx hb dX4_shared_22 (by decide) ?_
      obtain rfl := Option.some.inj h
      exact hQ _ _ _ _ dX4_shared_23 hP hS

abbrev rm_X4_estimate : Room := { frames := 3, cells := 0, slots := 0, locals := 80 }
def f_X4_estimate (R : RcV) (y1 : Int32) (y2 : Int32) (y3 : Int32) : Option (Int32 × RcV) := (f_X1_knows R.1 y2).bind (fun x1 => if (b2i x1) = 0 then (some ((-1), R)) else ((f_X4_isDay y1).bind (fun x4 => if (b2i x4) = 0 then (some ((-2), R)) else ((f_X4_isPart y3).bind (fun x7 => if (b2i x7) = 0 then (some ((-2), R)) else ((f_X1_workingOn R.1 y1).bind (fun x10 => (f_X4_without x10 y2).bind (fun x12 => if x12 = 0 then (some ((-3), R)) else ((f_X4_with x10 y2).bind (fun x15 => (f_X3_lookUp R.2.2.2.2.1 R.1 x15).bind (fun x17 => (f_X4_without x10 y2).bind (fun x19 => (f_X3_lookUp x17.2 R.1 x19).bind (fun x21 => gd (decide (x17.1 < 7)) (gd (ix y2 8) (if (((x21.2).2.2.2.2.2.2 x17.1).2.2.1 (y2 : Int32).toNatClampNeg) = 0 then (some ((-6), (R.1, R.2.1, R.2.2.1, R.2.2.2.1, x21.2, R.2.2.2.2.2))) else ((f_X4_rainOfOthers (R.1, R.2.1, R.2.2.1, R.2.2.2.1, x21.2, R.2.2.2.2.2) y1 y2 x17.1 x21.1).bind (fun x26 => gd (ix y2 8) ((f_X4_part y3 x26 (((x21.2).2.2.2.2.2.2 x17.1).2.2.1 (y2 : Int32).toNatClampNeg)).bind (fun x29 => some (x29, (R.1, R.2.1, R.2.2.1, R.2.2.2.1, x21.2, R.2.2.2.2.2)))))))))))))))))))))
set_option maxHeartbeats 4000000 in
set_option maxRecDepth 100000 in
theorem c_X4_estimate (l : Launch) (D : va_G) (k : Nat → ClassId) (a : Nat → Nat) (R : RcV) (y1 : Int32) (y2 : Int32) (y3 : Int32) (r : Int32 × RcV) (h : f_X4_estimate R y1 y2 y3 = some r) : Met l yX4_estimate wsX4_estimate rm_X4_estimate (va_Pc [.ref (a 0), .int y1, .int y2, .int y3] (MB D k (rcW k a R))) (QM D (rcW k a R) (rcW k a r.2) (some (.int r.1))) 0 0 (AD (rcW k a R)) := by
  refine met_Mi (by decide) rfl (Nat.le_of_ble_eq_true rfl) ?_
  intro p e s m below meth c Q args ls hx hb hml hown hts hP hK hN hD hl hQ
  have hl : lv_has ls 7 [(0, .ref (a 0)), (1, .int y1), (2, .int y2), (3, .int y3)] := hl
  have hown : s.vm.findClass RX4 = some m.cls := hown
  unfold f_X4_estimate at h
  have hiRX4 : ∀ w ∈ u_ws RX4 TX4 5, w ∈ wsX4_estimate := by decide +kernel
  have hiRX0 : ∀ w ∈ u_ws RX0 TX0 4, w ∈ wsX4_estimate := by decide +kernel
  have hf12 := hts (.fieldLink RX4 12 "RainCells" "scene" "LRainCells$Scene;") (by decide +kernel)
  have hf27 := hts (.fieldLink RX4 27 "RainCells" "store" "LRainCells$Store;") (by decide +kernel)
  have hf126 := hts (.fieldLink RX4 126 "RainCells$Cells" "plots" "[I") (by decide +kernel)
  generalize AD (rcW k a R) = A0 at hD hQ
  have hS : va_S A0 s.heap s.heap [] := va_S.rf
  refine lv_aload_n hx hb dX4_estimate_0 rfl (lv_at hl 0 rfl) ?_
  refine va_get (D := D) (ci := 4) (v := .ref (a 2)) (C := RX4) (T := TX4) (N := 5) hx hb hts hiRX4 hown hK hP 0 rfl rfl 0 (by decide) hf12 (fun _ h9 => h9) rfl dX4_estimate_1 ?_
  refine lv_iload_n hx hb dX4_estimate_4 rfl (lv_at hl 2 rfl) ?_
  obtain ⟨x1, h2, h⟩ := bd_s h
  refine cR_V (As := [.int y2]) (rest := []) (n := 1) (v := .int (b2i x1)) hx hb hml hown hts hK hN hl.1 (c_X1_knows l D k (fun j => a (2 + j)) R.1 y2 x1 h2) gX4_estimate_X1_knows rfl (by decide +kernel) ⟨⟨rfl, rfl⟩, by decide, by decide⟩ (hP.sub (ws' := sceneW k (fun j => a (2 + j)) R.1) [2, 3, 4, 5, 6, 7, 8, 9] rfl) 0 1 rfl rfl rfl rfl rfl (Nat.le_of_ble_eq_true rfl) dX4_estimate_5 ⟨Nat.zero_le _, Nat.zero_le _⟩ ?_
  refine lv_if_ne (tgt := 13) hx hb dX4_estimate_8 (by decide) (fun c3 => ?_) (fun c3 => ?_)
  · have h := if_f h c3
    refine lv_iload_n hx hb dX4_estimate_13 rfl (lv_at hl 1 rfl) ?_
    obtain ⟨x4, h5, h⟩ := bd_s h
    refine cR_S (As := [.int y1]) (rest := []) (n := 1) (v := .int (b2i x4)) hx hb hml hown hts hK hN hl.1 (c_X4_isDay l D k y1 x4 h5) gX4_estimate_X4_isDay rfl (by decide +kernel) ⟨⟨rfl, rfl⟩, by decide, by decide⟩ va_P_nil rfl rfl (Nat.le_of_ble_eq_true rfl) dX4_estimate_14 ⟨Nat.zero_le _, Nat.zero_le _⟩ ?_
    refine lv_if_eq (tgt := 27) hx hb dX4_estimate_17 (by decide) (fun c6 => ?_) (fun c6 => ?_)
    · have h := if_t h c6
      refine lv_bipush (v := (-2)) hx hb dX4_estimate_27 (by decide) ?_
      obtain rfl := Option.some.inj h
      exact hQ _ _ _ _ dX4_estimate_29 hP hS
    · have h := if_f h c6
      refine lv_iload_n hx hb dX4_estimate_20 rfl (lv_at hl 3 rfl) ?_
      obtain ⟨x7, h8, h⟩ := bd_s h
      refine cR_S (As := [.int y3]) (rest := []) (n := 1) (v := .int (b2i x7)) hx hb hml hown hts hK hN hl.1 (c_X4_isPart l D k y3 x7 h8) gX4_estimate_X4_isPart rfl (by decide +kernel) ⟨⟨rfl, rfl⟩, by decide, by decide⟩ va_P_nil rfl rfl (Nat.le_of_ble_eq_true rfl) dX4_estimate_21 ⟨Nat.zero_le _, Nat.zero_le _⟩ ?_
      refine lv_if_ne (tgt := 30) hx hb dX4_estimate_24 (by decide) (fun c9 => ?_) (fun c9 => ?_)
      · have h := if_f h c9
        refine lv_aload_n hx hb dX4_estimate_30 rfl (lv_at hl 0 rfl) ?_
        refine va_get (D := D) (ci := 4) (v := .ref (a 2)) (C := RX4) (T := TX4) (N := 5) hx hb hts hiRX4 hown hK hP 0 rfl rfl 0 (by decide) hf12 (fun _ h9 => h9) rfl dX4_estimate_31 ?_
        refine lv_iload_n hx hb dX4_estimate_34 rfl (lv_at hl 1 rfl) ?_
        obtain ⟨x10, h11, h⟩ := bd_s h
        refine cR_V (As := [.int y1]) (rest := []) (n := 1) (v := .int x10) hx hb hml hown hts hK hN hl.1 (c_X1_workingOn l D k (fun j => a (2 + j)) R.1 y1 x10 h11) gX4_estimate_X1_workingOn rfl (by decide +kernel) ⟨⟨rfl, rfl⟩, by decide, by decide⟩ (hP.sub (ws' := sceneW k (fun j => a (2 + j)) R.1) [2, 3, 4, 5, 6, 7, 8, 9] rfl) 0 1 rfl rfl rfl rfl rfl (Nat.le_of_ble_eq_true rfl) dX4_estimate_35 ⟨Nat.zero_le _, Nat.zero_le _⟩ ?_
        refine lv_istore (lv' := [(4, .int x10), (0, .ref (a 0)), (1, .int y1), (2, .int y2), (3, .int y3)]) hx hb dX4_estimate_38 hl (by decide) rfl (fun ls hl => ?_)
        refine lv_iload hx hb dX4_estimate_40 (lv_at hl 0 rfl) ?_
        refine lv_iload_n hx hb dX4_estimate_42 rfl (lv_at hl 3 rfl) ?_
        obtain ⟨x12, h13, h⟩ := bd_s h
        refine cR_S (As := [.int x10, .int y2]) (rest := []) (n := 2) (v := .int x12) hx hb hml hown hts hK hN hl.1 (c_X4_without l D k x10 y2 x12 h13) gX4_estimate_X4_without rfl (by decide +kernel) ⟨⟨rfl, rfl⟩, by decide, by decide⟩ va_P_nil rfl rfl (Nat.le_of_ble_eq_true rfl) dX4_estimate_43 ⟨Nat.zero_le _, Nat.zero_le _⟩ ?_
        refine lv_if_ne (tgt := 52) hx hb dX4_estimate_46 (by decide) (fun c14 => ?_) (fun c14 => ?_)
        · have h := if_f h c14
          refine lv_aload_n hx hb dX4_estimate_52 rfl (lv_at hl 1 rfl) ?_
          refine va_get (D := D) (ci := 4) (v := .ref (a 26)) (C := RX4) (T := TX4) (N := 5) hx hb hts hiRX4 hown hK hP 0 rfl rfl 3 (by decide) hf27 (fun _ h9 => h9) rfl dX4_estimate_53 ?_
          refine lv_aload_n hx hb dX4_estimate_56 rfl (lv_at hl 1 rfl) ?_
          refine va_get (D := D) (ci := 4) (v := .ref (a 2)) (C := RX4) (T := TX4) (N := 5) hx hb hts hiRX4 hown hK hP 0 rfl rfl 0 (by decide) hf12 (fun _ h9 => h9) rfl dX4_estimate_57 ?_
          refine lv_iload hx hb dX4_estimate_60 (lv_at hl 0 rfl) ?_
          refine lv_iload_n hx hb dX4_estimate_62 rfl (lv_at hl 3 rfl) ?_
          obtain ⟨x15, h16, h⟩ := bd_s h
          refine cR_S (As := [.int x10, .int y2]) (rest := [.ref (a 2), .ref (a 26)]) (n := 2) (v := .int x15) hx hb hml hown hts hK hN hl.1 (c_X4_with l D k x10 y2 x15 h16) gX4_estimate_X4_with rfl (by decide +kernel) ⟨⟨rfl, rfl⟩, by decide, by decide⟩ va_P_nil rfl rfl (Nat.le_of_ble_eq_true rfl) dX4_estimate_63 ⟨Nat.zero_le _, Nat.zero_le _⟩ ?_
          obtain ⟨x17, h18, h⟩ := bd_s h
          refine cM_V (As := [.ref (a 2), .int x15]) (rest := []) (n := 2) (ov := (some (.ref (a (26 + (3 + 4 * x17.1)))))) (wc := storeW k (fun j => a (26 + j)) R.2.2.2.2.1 ++ (sceneW k (fun j => a (2 + j)) R.1)) (wc' := storeW k (fun j => a (26 + j)) x17.2 ++ (sceneW k (fun j => a (2 + j)) R.1)) (w1 := rcW k a (R.1, R.2.1, R.2.2.1, R.2.2.2.1, x17.2, R.2.2.2.2.2)) hx hb hml hown hts hK hN hl.1 hP hD hS rcs_st_sc (c_X3_lookUp l D k (fun j => a (26 + j)) (fun j => a (2 + j)) R.2.2.2.2.1 R.1 x15 x17 h18) gX4_estimate_X3_lookUp rfl (by decide +kernel) ⟨⟨rfl, rfl⟩, by decide, by decide⟩ 0 3 rfl rfl rfl rfl rfl (Nat.le_of_ble_eq_true rfl) dX4_estimate_66 ⟨Nat.zero_le _, Nat.zero_le _⟩ (fun H locs hP hD hS => ?_)
          show W p l e rm_X4_estimate s m args below meth c H locs 0 0 Q (F0 m 69 ls [.ref (a (26 + (3 + 4 * x17.1)))])
          refine lv_astore (lv' := [(5, .ref (a (26 + (3 + 4 * x17.1)))), (4, .int x10), (0, .ref (a 0)), (1, .int y1), (2, .int y2), (3, .int y3)]) hx hb dX4_estimate_69 hl (by decide) rfl (fun ls hl => ?_)
          refine lv_aload_n hx hb dX4_estimate_71 rfl (lv_at hl 2 rfl) ?_
          refine va_get (D := D) (ci := 4) (v := .ref (a 26)) (C := RX4) (T := TX4) (N := 5) hx hb hts hiRX4 hown hK hP 0 rfl rfl 3 (by decide) hf27 (fun _ h9 => h9) rfl dX4_estimate_72 ?_
          refine lv_aload_n hx hb dX4_estimate_75 rfl (lv_at hl 2 rfl) ?_
          refine va_get (D := D) (ci := 4) (v := .ref (a 2)) (C := RX4) (T := TX4) (N := 5) hx hb hts hiRX4 hown hK hP 0 rfl rfl 0 (by decide) hf12 (fun _ h9 => h9) rfl dX4_estimate_76 ?_
          refine lv_iload hx hb dX4_estimate_79 (lv_at hl 1 rfl) ?_
          refine lv_iload_n hx hb dX4_estimate_81 rfl (lv_at hl 4 rfl) ?_
          obtain ⟨x19, h20, h⟩ := bd_s h
          refine cR_S (As := [.int x10, .int y2]) (rest := [.ref (a 2), .ref (a 26)]) (n := 2) (v := .int x19) hx hb hml hown hts hK hN hl.1 (c_X4_without l D k x10 y2 x19 h20) gX4_estimate_X4_without rfl (by decide +kernel) ⟨⟨rfl, rfl⟩, by decide, by decide⟩ va_P_nil rfl rfl (Nat.le_of_ble_eq_true rfl) dX4_estimate_82 ⟨Nat.zero_le _, Nat.zero_le _⟩ ?_
          obtain ⟨x21, h22, h⟩ := bd_s h
          refine cM_V (As := [.ref (a 2), .int x19]) (rest := []) (n := 2) (ov := (some (.ref (a (26 + (3 + 4 * x21.1)))))) (wc := storeW k (fun j => a (26 + j)) x17.2 ++ (sceneW k (fun j => a (2 + j)) R.1)) (wc' := storeW k (fun j => a (26 + j)) x21.2 ++ (sceneW k (fun j => a (2 + j)) R.1)) (w1 := rcW k a (R.1, R.2.1, R.2.2.1, R.2.2.2.1, x21.2, R.2.2.2.2.2)) hx hb hml hown hts hK hN hl.1 hP hD hS rcs_st_sc (c_X3_lookUp l D k (fun j => a (26 + j)) (fun j => a (2 + j)) x17.2 R.1 x19 x21 h22) gX4_estimate_X3_lookUp rfl (by decide +kernel) ⟨⟨rfl, rfl⟩, by decide, by decide⟩ 0 3 rfl rfl rfl rfl rfl (Nat.le_of_ble_eq_true rfl) dX4_estimate_85 ⟨Nat.zero_le _, Nat.zero_le _⟩ (fun H locs hP hD hS => ?_)
          show W p l e rm_X4_estimate s m args below meth c H locs 0 0 Q (F0 m 88 ls [.ref (a (26 + (3 + 4 * x21.1)))])
          refine lv_astore (lv' := [(6, .ref (a (26 + (3 + 4 * x21.1)))), (5, .ref (a (26 + (3 + 4 * x17.1)))), (4, .int x10), (0, .ref (a 0)), (1, .int y1), (2, .int y2), (3, .int y3)]) hx hb dX4_estimate_88 hl (by decide) rfl (fun ls hl => ?_)
          refine lv_aload hx hb dX4_estimate_90 (lv_at hl 1 rfl) ?_
          obtain ⟨c23, h⟩ := gd_s h
          refine va_get (D := D) (ci := 0) (v := .ref (a (26 + (3 + 4 * x17.1 + 2)))) (C := RX0) (T := TX0) (N := 4) hx hb hts hiRX0 hown hK (rc_cell (of_decide_eq_true c23) (hP)) 0 rfl rfl 2 (by decide) hf126 (fun _ h9 => h9) rfl dX4_estimate_92 ?_
          refine lv_iload_n hx hb dX4_estimate_95 rfl (lv_at hl 5 rfl) ?_
          obtain ⟨c24, h⟩ := gd_s h
          refine va_iald (D := D) hx hb hK (rc_cell (of_decide_eq_true c23) (hP)) 2 0 rfl rfl (ix_in c24) dX4_estimate_96 ?_
          refine lv_if_ne (tgt := 103) hx hb dX4_estimate_97 (by decide) (fun c25 => ?_) (fun c25 => ?_)
          · have h := if_f h c25
            refine lv_iload_n hx hb dX4_estimate_103 rfl (lv_at hl 6 rfl) ?_
            refine lv_aload_n hx hb dX4_estimate_104 rfl (lv_at hl 3 rfl) ?_
            refine lv_iload_n hx hb dX4_estimate_105 rfl (lv_at hl 4 rfl) ?_
            refine lv_iload_n hx hb dX4_estimate_106 rfl (lv_at hl 5 rfl) ?_
            refine lv_aload hx hb dX4_estimate_107 (lv_at hl 1 rfl) ?_
            refine lv_aload hx hb dX4_estimate_109 (lv_at hl 0 rfl) ?_
            obtain ⟨x26, h27, h⟩ := bd_s h
            refine cR_V (As := [.int y1, .int y2, .ref (a (26 + (3 + 4 * x17.1))), .ref (a (26 + (3 + 4 * x21.1)))]) (rest := [.int y3]) (n := 4) (v := .int x26) hx hb hml hown hts hK hN hl.1 (c_X4_rainOfOthers l D k a (R.1, R.2.1, R.2.2.1, R.2.2.2.1, x21.2, R.2.2.2.2.2) y1 y2 x17.1 x21.1 x26 h27) gX4_estimate_X4_rainOfOthers rfl (by decide +kernel) ⟨⟨rfl, rfl⟩, by decide, by decide⟩ hP 0 4 rfl rfl rfl rfl rfl (Nat.le_of_ble_eq_true rfl) dX4_estimate_111 ⟨Nat.zero_le _, Nat.zero_le _⟩ ?_
            refine lv_aload hx hb dX4_estimate_114 (lv_at hl 1 rfl) ?_
            refine va_get (D := D) (ci := 0) (v := .ref (a (26 + (3 + 4 * x17.1 + 2)))) (C := RX0) (T := TX0) (N := 4) hx hb hts hiRX0 hown hK (rc_cell (of_decide_eq_true c23) (hP)) 0 rfl rfl 2 (by decide) hf126 (fun _ h9 => h9) rfl dX4_estimate_116 ?_
            refine lv_iload_n hx hb dX4_estimate_119 rfl (lv_at hl 5 rfl) ?_
            obtain ⟨c28, h⟩ := gd_s h
            refine va_iald (D := D) hx hb hK (rc_cell (of_decide_eq_true c23) (hP)) 2 0 rfl rfl (ix_in c28) dX4_estimate_120 ?_
            obtain ⟨x29, h30, h⟩ := bd_s h
            refine cR_S (As := [.int y3, .int x26, .int (((x21.2).2.2.2.2.2.2 x17.1).2.2.1 (y2 : Int32).toNatClampNeg)]) (rest := []) (n := 3) (v := .int x29) hx hb hml hown hts hK hN hl.1 (c_X4_part l D k y3 x26 (((x21.2).2.2.2.2.2.2 x17.1).2.2.1 (y2 : Int32).toNatClampNeg) x29 h30) gX4_estimate_X4_part rfl (by decide +kernel) ⟨⟨rfl, rfl⟩, by decide, by decide⟩ va_P_nil rfl rfl (Nat.le_of_ble_eq_true rfl) dX4_estimate_121 ⟨Nat.zero_le _, Nat.zero_le _⟩ ?_
            obtain rfl := Option.some.inj h
            exact hQ _ _ _ _ dX4_estimate_124 hP hS
          · have h := if_t h c25
            refine lv_bipush (v := (-6)) hx hb dX4_estimate_100 (by decide) ?_
            obtain rfl := Option.some.inj h
            exact hQ _ _ _ _ dX4_estimate_102 hP hS
        · have h := if_t h c14
          refine lv_bipush (v := (-3)) hx hb dX4_estimate_49 (by decide) ?_
          obtain rfl := Option.some.inj h
          exact hQ _ _ _ _ dX4_estimate_51 hP hS
      · have h := if_t h c9
        refine lv_bipush (v := (-2)) hx hb dX4_estimate_27 (by decide) ?_
        obtain rfl := Option.some.inj h
        exact hQ _ _ _ _ dX4_estimate_29 hP hS
  · have h := if_t h c3
    refine lv_iconst (v := (-1)) hx hb dX4_estimate_11 (by decide) ?_
    obtain rfl := Option.some.inj h
    exact hQ _ _ _ _ dX4_estimate_12 hP hS

abbrev rm_X4_isDoubted : Room := { frames := 3, cells := 0, slots := 0, locals := 80 }
def f_X4_isDoubted (R : RcV) (y1 : Int32) (y2 : Int32) (y3 : Int32) : Option (Bool × RcV) := (f_X1_workingOn R.1 y1).bind (fun x1 => (f_X4_with x1 y2).bind (fun x3 => (f_X3_lookUp R.2.2.2.2.1 R.1 x3).bind (fun x5 => (f_X4_without x1 y2).bind (fun x7 => (f_X3_lookUp x5.2 R.1 x7).bind (fun x9 => gd (decide (x5.1 < 7)) (gd (ix y2 8) ((f_X1_readingOf R.1 y2 y1).bind (fun x13 => (f_X4_rainOfOthers (R.1, R.2.1, R.2.2.1, R.2.2.2.1, x9.2, R.2.2.2.2.2) y1 y2 x5.1 x9.1).bind (fun x15 => if (if 0 ≤ ((x13 * (((x9.2).2.2.2.2.2.2 x5.1).2.2.1 (y2 : Int32).toNatClampNeg)) - x15) then ((x13 * (((x9.2).2.2.2.2.2.2 x5.1).2.2.1 (y2 : Int32).toNatClampNeg)) - x15) else 0 - ((x13 * (((x9.2).2.2.2.2.2.2 x5.1).2.2.1 (y2 : Int32).toNatClampNeg)) - x15)) ≤ (y3 * (((x9.2).2.2.2.2.2.2 x5.1).2.2.1 (y2 : Int32).toNatClampNeg)) then (some (false, (R.1, R.2.1, R.2.2.1, R.2.2.2.1, x9.2, R.2.2.2.2.2))) else (some (true, (R.1, R.2.1, R.2.2.1, R.2.2.2.1, x9.2, R.2.2.2.2.2))))))))))))
set_option maxHeartbeats 4000000 in
set_option maxRecDepth 100000 in
theorem c_X4_isDoubted (l : Launch) (D : va_G) (k : Nat → ClassId) (a : Nat → Nat) (R : RcV) (y1 : Int32) (y2 : Int32) (y3 : Int32) (r : Bool × RcV) (h : f_X4_isDoubted R y1 y2 y3 = some r) : Met l yX4_isDoubted wsX4_isDoubted rm_X4_isDoubted (va_Pc [.ref (a 0), .int y1, .int y2, .int y3] (MB D k (rcW k a R))) (QM D (rcW k a R) (rcW k a r.2) (some (.int (b2i r.1)))) 0 0 (AD (rcW k a R)) := by
  refine met_Mz (by decide) rfl (Nat.le_of_ble_eq_true rfl) ?_
  intro p e s m below meth c Q args ls hx hb hml hown hts hP hK hN hD hl hQ
  have hl : lv_has ls 9 [(0, .ref (a 0)), (1, .int y1), (2, .int y2), (3, .int y3)] := hl
  have hown : s.vm.findClass RX4 = some m.cls := hown
  unfold f_X4_isDoubted at h
  have hiRX4 : ∀ w ∈ u_ws RX4 TX4 5, w ∈ wsX4_isDoubted := by decide +kernel
  have hiRX0 : ∀ w ∈ u_ws RX0 TX0 4, w ∈ wsX4_isDoubted := by decide +kernel
  have hf12 := hts (.fieldLink RX4 12 "RainCells" "scene" "LRainCells$Scene;") (by decide +kernel)
  have hf27 := hts (.fieldLink RX4 27 "RainCells" "store" "LRainCells$Store;") (by decide +kernel)
  have hf126 := hts (.fieldLink RX4 126 "RainCells$Cells" "plots" "[I") (by decide +kernel)
  generalize AD (rcW k a R) = A0 at hD hQ
  have hS : va_S A0 s.heap s.heap [] := va_S.rf
  refine lv_aload_n hx hb dX4_isDoubted_0 rfl (lv_at hl 0 rfl) ?_
  refine va_get (D := D) (ci := 4) (v := .ref (a 2)) (C := RX4) (T := TX4) (N := 5) hx hb hts hiRX4 hown hK hP 0 rfl rfl 0 (by decide) hf12 (fun _ h9 => h9) rfl dX4_isDoubted_1 ?_
  refine lv_iload_n hx hb dX4_isDoubted_4 rfl (lv_at hl 1 rfl) ?_
  obtain ⟨x1, h2, h⟩ := bd_s h
  refine cR_V (As := [.int y1]) (rest := []) (n := 1) (v := .int x1) hx hb hml hown hts hK hN hl.1 (c_X1_workingOn l D k (fun j => a (2 + j)) R.1 y1 x1 h2) gX4_isDoubted_X1_workingOn rfl (by decide +kernel) ⟨⟨rfl, rfl⟩, by decide, by decide⟩ (hP.sub (ws' := sceneW k (fun j => a (2 + j)) R.1) [2, 3, 4, 5, 6, 7, 8, 9] rfl) 0 1 rfl rfl rfl rfl rfl (Nat.le_of_ble_eq_true rfl) dX4_isDoubted_5 ⟨Nat.zero_le _, Nat.zero_le _⟩ ?_
  refine lv_istore (lv' := [(4, .int x1), (0, .ref (a 0)), (1, .int y1), (2, .int y2), (3, .int y3)]) hx hb dX4_isDoubted_8 hl (by decide) rfl (fun ls hl => ?_)
  refine lv_aload_n hx hb dX4_isDoubted_10 rfl (lv_at hl 1 rfl) ?_
  refine va_get (D := D) (ci := 4) (v := .ref (a 26)) (C := RX4) (T := TX4) (N := 5) hx hb hts hiRX4 hown hK hP 0 rfl rfl 3 (by decide) hf27 (fun _ h9 => h9) rfl dX4_isDoubted_11 ?_
  refine lv_aload_n hx hb dX4_isDoubted_14 rfl (lv_at hl 1 rfl) ?_
  refine va_get (D := D) (ci := 4) (v := .ref (a 2)) (C := RX4) (T := TX4) (N := 5) hx hb hts hiRX4 hown hK hP 0 rfl rfl 0 (by decide) hf12 (fun _ h9 => h9) rfl dX4_isDoubted_15 ?_
  refine lv_iload hx hb dX4_isDoubted_18 (lv_at hl 0 rfl) ?_
  refine lv_iload_n hx hb dX4_isDoubted_20 rfl (lv_at hl 3 rfl) ?_
  obtain ⟨x3, h4, h⟩ := bd_s h
  refine cR_S (As := [.int x1, .int y2]) (rest := [.ref (a 2), .ref (a 26)]) (n := 2) (v := .int x3) hx hb hml hown hts hK hN hl.1 (c_X4_with l D k x1 y2 x3 h4) gX4_isDoubted_X4_with rfl (by decide +kernel) ⟨⟨rfl, rfl⟩, by decide, by decide⟩ va_P_nil rfl rfl (Nat.le_of_ble_eq_true rfl) dX4_isDoubted_21 ⟨Nat.zero_le _, Nat.zero_le _⟩ ?_
  obtain ⟨x5, h6, h⟩ := bd_s h
  refine cM_V (As := [.ref (a 2), .int x3]) (rest := []) (n := 2) (ov := (some (.ref (a (26 + (3 + 4 * x5.1)))))) (wc := storeW k (fun j => a (26 + j)) R.2.2.2.2.1 ++ (sceneW k (fun j => a (2 + j)) R.1)) (wc' := storeW k (fun j => a (26 + j)) x5.2 ++ (sceneW k (fun j => a (2 + j)) R.1)) (w1 := rcW k a (R.1, R.2.1, R.2.2.1, R.2.2.2.1, x5.2, R.2.2.2.2.2)) hx hb hml hown hts hK hN hl.1 hP hD hS rcs_st_sc (c_X3_lookUp l D k (fun j => a (26 + j)) (fun j => a (2 + j)) R.2.2.2.2.1 R.1 x3 x5 h6) gX4_isDoubted_X3_lookUp rfl (by decide +kernel) ⟨⟨rfl, rfl⟩, by decide, by decide⟩ 0 3 rfl rfl rfl rfl rfl (Nat.le_of_ble_eq_true rfl) dX4_isDoubted_24 ⟨Nat.zero_le _, Nat.zero_le _⟩ (fun H locs hP hD hS => ?_)
  show W p l e rm_X4_isDoubted s m args below meth c H locs 0 0 Q (F0 m 27 ls [.ref (a (26 + (3 + 4 * x5.1)))])
  refine lv_astore (lv' := [(5, .ref (a (26 + (3 + 4 * x5.1)))), (4, .int x1), (0, .ref (a 0)), (1, .int y1), (2, .int y2), (3, .int y3)]) hx hb dX4_isDoubted_27 hl (by decide) rfl (fun ls hl => ?_)
  refine lv_aload_n hx hb dX4_isDoubted_29 rfl (lv_at hl 2 rfl) ?_
  refine va_get (D := D) (ci := 4) (v := .ref (a 26)) (C := RX4) (T := TX4) (N := 5) hx hb hts hiRX4 hown hK hP 0 rfl rfl 3 (by decide) hf27 (fun _ h9 => h9) rfl dX4_isDoubted_30 ?_
  refine lv_aload_n hx hb dX4_isDoubted_33 rfl (lv_at hl 2 rfl) ?_
  refine va_get (D := D) (ci := 4) (v := .ref (a 2)) (C := RX4) (T := TX4) (N := 5) hx hb hts hiRX4 hown hK hP 0 rfl rfl 0 (by decide) hf12 (fun _ h9 => h9) rfl dX4_isDoubted_34 ?_
  refine lv_iload hx hb dX4_isDoubted_37 (lv_at hl 1 rfl) ?_
  refine lv_iload_n hx hb dX4_isDoubted_39 rfl (lv_at hl 4 rfl) ?_
  obtain ⟨x7, h8, h⟩ := bd_s h
  refine cR_S (As := [.int x1, .int y2]) (rest := [.ref (a 2), .ref (a 26)]) (n := 2) (v := .int x7) hx hb hml hown hts hK hN hl.1 (c_X4_without l D k x1 y2 x7 h8) gX4_isDoubted_X4_without rfl (by decide +kernel) ⟨⟨rfl, rfl⟩, by decide, by decide⟩ va_P_nil rfl rfl (Nat.le_of_ble_eq_true rfl) dX4_isDoubted_40 ⟨Nat.zero_le _, Nat.zero_le _⟩ ?_
  obtain ⟨x9, h10, h⟩ := bd_s h
  refine cM_V (As := [.ref (a 2), .int x7]) (rest := []) (n := 2) (ov := (some (.ref (a (26 + (3 + 4 * x9.1)))))) (wc := storeW k (fun j => a (26 + j)) x5.2 ++ (sceneW k (fun j => a (2 + j)) R.1)) (wc' := storeW k (fun j => a (26 + j)) x9.2 ++ (sceneW k (fun j => a (2 + j)) R.1)) (w1 := rcW k a (R.1, R.2.1, R.2.2.1, R.2.2.2.1, x9.2, R.2.2.2.2.2)) hx hb hml hown hts hK hN hl.1 hP hD hS rcs_st_sc (c_X3_lookUp l D k (fun j => a (26 + j)) (fun j => a (2 + j)) x5.2 R.1 x7 x9 h10) gX4_isDoubted_X3_lookUp rfl (by decide +kernel) ⟨⟨rfl, rfl⟩, by decide, by decide⟩ 0 3 rfl rfl rfl rfl rfl (Nat.le_of_ble_eq_true rfl) dX4_isDoubted_43 ⟨Nat.zero_le _, Nat.zero_le _⟩ (fun H locs hP hD hS => ?_)
  show W p l e rm_X4_isDoubted s m args below meth c H locs 0 0 Q (F0 m 46 ls [.ref (a (26 + (3 + 4 * x9.1)))])
  refine lv_astore (lv' := [(6, .ref (a (26 + (3 + 4 * x9.1)))), (5, .ref (a (26 + (3 + 4 * x5.1)))), (4, .int x1), (0, .ref (a 0)), (1, .int y1), (2, .int y2), (3, .int y3)]) hx hb dX4_isDoubted_46 hl (by decide) rfl (fun ls hl => ?_)
  refine lv_aload hx hb dX4_isDoubted_48 (lv_at hl 1 rfl) ?_
  obtain ⟨c11, h⟩ := gd_s h
  refine va_get (D := D) (ci := 0) (v := .ref (a (26 + (3 + 4 * x5.1 + 2)))) (C := RX0) (T := TX0) (N := 4) hx hb hts hiRX0 hown hK (rc_cell (of_decide_eq_true c11) (hP)) 0 rfl rfl 2 (by decide) hf126 (fun _ h9 => h9) rfl dX4_isDoubted_50 ?_
  refine lv_iload_n hx hb dX4_isDoubted_53 rfl (lv_at hl 5 rfl) ?_
  obtain ⟨c12, h⟩ := gd_s h
  refine va_iald (D := D) hx hb hK (rc_cell (of_decide_eq_true c11) (hP)) 2 0 rfl rfl (ix_in c12) dX4_isDoubted_54 ?_
  refine lv_istore (lv' := [(7, .int (((x9.2).2.2.2.2.2.2 x5.1).2.2.1 (y2 : Int32).toNatClampNeg)), (6, .ref (a (26 + (3 + 4 * x9.1)))), (5, .ref (a (26 + (3 + 4 * x5.1)))), (4, .int x1), (0, .ref (a 0)), (1, .int y1), (2, .int y2), (3, .int y3)]) hx hb dX4_isDoubted_55 hl (by decide) rfl (fun ls hl => ?_)
  refine lv_aload_n hx hb dX4_isDoubted_57 rfl (lv_at hl 4 rfl) ?_
  refine va_get (D := D) (ci := 4) (v := .ref (a 2)) (C := RX4) (T := TX4) (N := 5) hx hb hts hiRX4 hown hK hP 0 rfl rfl 0 (by decide) hf12 (fun _ h9 => h9) rfl dX4_isDoubted_58 ?_
  refine lv_iload_n hx hb dX4_isDoubted_61 rfl (lv_at hl 6 rfl) ?_
  refine lv_iload_n hx hb dX4_isDoubted_62 rfl (lv_at hl 5 rfl) ?_
  obtain ⟨x13, h14, h⟩ := bd_s h
  refine cR_V (As := [.int y2, .int y1]) (rest := []) (n := 2) (v := .int x13) hx hb hml hown hts hK hN hl.1 (c_X1_readingOf l D k (fun j => a (2 + j)) R.1 y2 y1 x13 h14) gX4_isDoubted_X1_readingOf rfl (by decide +kernel) ⟨⟨rfl, rfl⟩, by decide, by decide⟩ (hP.sub (ws' := sceneW k (fun j => a (2 + j)) R.1) [2, 3, 4, 5, 6, 7, 8, 9] rfl) 0 1 rfl rfl rfl rfl rfl (Nat.le_of_ble_eq_true rfl) dX4_isDoubted_63 ⟨Nat.zero_le _, Nat.zero_le _⟩ ?_
  refine lv_iload hx hb dX4_isDoubted_66 (lv_at hl 0 rfl) ?_
  refine lv_imul hx hb dX4_isDoubted_68 ?_
  refine lv_aload_n hx hb dX4_isDoubted_69 rfl (lv_at hl 4 rfl) ?_
  refine lv_iload_n hx hb dX4_isDoubted_70 rfl (lv_at hl 5 rfl) ?_
  refine lv_iload_n hx hb dX4_isDoubted_71 rfl (lv_at hl 6 rfl) ?_
  refine lv_aload hx hb dX4_isDoubted_72 (lv_at hl 2 rfl) ?_
  refine lv_aload hx hb dX4_isDoubted_74 (lv_at hl 1 rfl) ?_
  obtain ⟨x15, h16, h⟩ := bd_s h
  refine cR_V (As := [.int y1, .int y2, .ref (a (26 + (3 + 4 * x5.1))), .ref (a (26 + (3 + 4 * x9.1)))]) (rest := [.int (x13 * (((x9.2).2.2.2.2.2.2 x5.1).2.2.1 (y2 : Int32).toNatClampNeg))]) (n := 4) (v := .int x15) hx hb hml hown hts hK hN hl.1 (c_X4_rainOfOthers l D k a (R.1, R.2.1, R.2.2.1, R.2.2.2.1, x9.2, R.2.2.2.2.2) y1 y2 x5.1 x9.1 x15 h16) gX4_isDoubted_X4_rainOfOthers rfl (by decide +kernel) ⟨⟨rfl, rfl⟩, by decide, by decide⟩ hP 0 4 rfl rfl rfl rfl rfl (Nat.le_of_ble_eq_true rfl) dX4_isDoubted_76 ⟨Nat.zero_le _, Nat.zero_le _⟩ ?_
  refine lv_isub hx hb dX4_isDoubted_79 ?_
  refine lv_istore (lv' := [(8, .int ((x13 * (((x9.2).2.2.2.2.2.2 x5.1).2.2.1 (y2 : Int32).toNatClampNeg)) - x15)), (7, .int (((x9.2).2.2.2.2.2.2 x5.1).2.2.1 (y2 : Int32).toNatClampNeg)), (6, .ref (a (26 + (3 + 4 * x9.1)))), (5, .ref (a (26 + (3 + 4 * x5.1)))), (4, .int x1), (0, .ref (a 0)), (1, .int y1), (2, .int y2), (3, .int y3)]) hx hb dX4_isDoubted_80 hl (by decide) rfl (fun ls hl => ?_)
  refine lv_iload hx hb dX4_isDoubted_82 (lv_at hl 0 rfl) ?_
  refine va_mabs hx hb (hml.trans hl.1.symm) hown (hts (.methodLink RX4 230 Lib.Math.abs.name) (by decide +kernel)) (hts (.static Lib.Math.abs.name) (by decide +kernel)) (hts (.initialized "java/lang/Math") (by decide +kernel)) (hts (.code Lib.Math.abs.name Lib.Math.abs.code 1 (some .int)) (by decide +kernel)) (Nat.le_of_ble_eq_true rfl) (Nat.le_of_ble_eq_true rfl) (Nat.zero_le _) (Nat.zero_le _) dX4_isDoubted_84 ?_
  refine lv_iload_n hx hb dX4_isDoubted_87 rfl (lv_at hl 8 rfl) ?_
  refine lv_iload hx hb dX4_isDoubted_88 (lv_at hl 1 rfl) ?_
  refine lv_imul hx hb dX4_isDoubted_90 ?_
  refine lv_icmp_le (tgt := 98) hx hb dX4_isDoubted_91 (by decide) (fun c17 => ?_) (fun c17 => ?_)
  · have h := if_t h c17
    refine lv_iconst (v := 0) hx hb dX4_isDoubted_98 (by decide) ?_
    obtain rfl := Option.some.inj h
    exact hQ _ _ _ _ dX4_isDoubted_99 hP hS
  · have h := if_f h c17
    refine lv_iconst (v := 1) hx hb dX4_isDoubted_94 (by decide) ?_
    refine lv_goto (tgt := 99) hx hb dX4_isDoubted_95 (by decide) ?_
    obtain rfl := Option.some.inj h
    exact hQ _ _ _ _ dX4_isDoubted_99 hP hS

abbrev rm_X4_doubt : Room := { frames := 4, cells := 0, slots := 0, locals := 108 }
def f_X4_doubt_L36 (y1 : Int32) (y2 : Int32) (y3 : Int32) (z : Int32 × Int32 × RcV) : Option ((Int32 × Int32 × RcV) ⊕ (Int32 × RcV)) := if ((z.2.2).1).2.2.1 ≤ z.2.1 then (some (.inr (z.1, z.2.2))) else ((f_X4_isIn y3 z.2.1).bind (fun x9 => (if (b2i x9) = 0 then (some (z.1, z.2.2)) else ((f_X4_without y3 z.2.1).bind (fun x15 => if x15 = 0 then (some (z.1, z.2.2)) else ((f_X4_isDoubted z.2.2 y1 z.2.1 y2).bind (fun x18 => if (b2i x18.1) = 0 then (some (z.1, x18.2)) else ((f_X4_with z.1 z.2.1).bind (fun x21 => some (x21, x18.2))))))) : Option (Int32 × RcV)).bind (fun x11 => some (.inl (x11.1, (z.2.1 + 1), x11.2)))))
def f_X4_doubt (R : RcV) (y1 : Int32) (y2 : Int32) : Option (Int32 × RcV) := (f_X4_isDay y1).bind (fun x1 => if (b2i x1) = 0 then (some ((-2), R)) else (if y2 < 0 then (some ((-2), R)) else (if y2 ≤ 9999 then ((f_X1_workingOn R.1 y1).bind (fun x6 => (lp (f_X4_doubt_L36 y1 y2 x6) fu (0, 0, R)).bind (fun x8 => some (x8.1, x8.2)))) else (some ((-2), R)))))
set_option maxHeartbeats 4000000 in
set_option maxRecDepth 100000 in
theorem c_X4_doubt (l : Launch) (D : va_G) (k : Nat → ClassId) (a : Nat → Nat) (R : RcV) (y1 : Int32) (y2 : Int32) (r : Int32 × RcV) (h : f_X4_doubt R y1 y2 = some r) : Met l yX4_doubt wsX4_doubt rm_X4_doubt (va_Pc [.ref (a 0), .int y1, .int y2] (MB D k (rcW k a R))) (QM D (rcW k a R) (rcW k a r.2) (some (.int r.1))) 0 0 (AD (rcW k a R)) := by
  refine met_Mi (by decide) rfl (Nat.le_of_ble_eq_true rfl) ?_
  intro p e s m below meth c Q args ls hx hb hml hown hts hP hK hN hD hl hQ
  have hl : lv_has ls 6 [(0, .ref (a 0)), (1, .int y1), (2, .int y2)] := hl
  have hown : s.vm.findClass RX4 = some m.cls := hown
  unfold f_X4_doubt at h
  have hiRX4 : ∀ w ∈ u_ws RX4 TX4 5, w ∈ wsX4_doubt := by decide +kernel
  have hiRX1 : ∀ w ∈ u_ws RX1 TX1 8, w ∈ wsX4_doubt := by decide +kernel
  have hf12 := hts (.fieldLink RX4 12 "RainCells" "scene" "LRainCells$Scene;") (by decide +kernel)
  have hf63 := hts (.fieldLink RX4 63 "RainCells$Scene" "gauges" "I") (by decide +kernel)
  generalize AD (rcW k a R) = A0 at hD hQ
  have hS : va_S A0 s.heap s.heap [] := va_S.rf
  refine lv_iload_n hx hb dX4_doubt_0 rfl (lv_at hl 1 rfl) ?_
  obtain ⟨x1, h2, h⟩ := bd_s h
  refine cR_S (As := [.int y1]) (rest := []) (n := 1) (v := .int (b2i x1)) hx hb hml hown hts hK hN hl.1 (c_X4_isDay l D k y1 x1 h2) gX4_doubt_X4_isDay rfl (by decide +kernel) ⟨⟨rfl, rfl⟩, by decide, by decide⟩ va_P_nil rfl rfl (Nat.le_of_ble_eq_true rfl) dX4_doubt_1 ⟨Nat.zero_le _, Nat.zero_le _⟩ ?_
  refine lv_if_eq (tgt := 18) hx hb dX4_doubt_4 (by decide) (fun c3 => ?_) (fun c3 => ?_)
  · have h := if_t h c3
    refine lv_bipush (v := (-2)) hx hb dX4_doubt_18 (by decide) ?_
    obtain rfl := Option.some.inj h
    exact hQ _ _ _ _ dX4_doubt_20 hP hS
  · have h := if_f h c3
    refine lv_iload_n hx hb dX4_doubt_7 rfl (lv_at hl 2 rfl) ?_
    refine lv_if_lt (tgt := 18) hx hb dX4_doubt_8 (by decide) (fun c4 => ?_) (fun c4 => ?_)
    · have h := if_t h c4
      refine lv_bipush (v := (-2)) hx hb dX4_doubt_18 (by decide) ?_
      obtain rfl := Option.some.inj h
      exact hQ _ _ _ _ dX4_doubt_20 hP hS
    · have h := if_f h c4
      refine lv_iload_n hx hb dX4_doubt_11 rfl (lv_at hl 2 rfl) ?_
      refine lv_sipush (v := 9999) hx hb dX4_doubt_12 (by decide) ?_
      refine lv_icmp_le (tgt := 21) hx hb dX4_doubt_15 (by decide) (fun c5 => ?_) (fun c5 => ?_)
      · have h := if_t h c5
        refine lv_aload_n hx hb dX4_doubt_21 rfl (lv_at hl 0 rfl) ?_
        refine va_get (D := D) (ci := 4) (v := .ref (a 2)) (C := RX4) (T := TX4) (N := 5) hx hb hts hiRX4 hown hK hP 0 rfl rfl 0 (by decide) hf12 (fun _ h9 => h9) rfl dX4_doubt_22 ?_
        refine lv_iload_n hx hb dX4_doubt_25 rfl (lv_at hl 1 rfl) ?_
        obtain ⟨x6, h7, h⟩ := bd_s h
        refine cR_V (As := [.int y1]) (rest := []) (n := 1) (v := .int x6) hx hb hml hown hts hK hN hl.1 (c_X1_workingOn l D k (fun j => a (2 + j)) R.1 y1 x6 h7) gX4_doubt_X1_workingOn rfl (by decide +kernel) ⟨⟨rfl, rfl⟩, by decide, by decide⟩ (hP.sub (ws' := sceneW k (fun j => a (2 + j)) R.1) [2, 3, 4, 5, 6, 7, 8, 9] rfl) 0 1 rfl rfl rfl rfl rfl (Nat.le_of_ble_eq_true rfl) dX4_doubt_26 ⟨Nat.zero_le _, Nat.zero_le _⟩ ?_
        refine lv_istore_n (lv' := [(3, .int x6), (0, .ref (a 0)), (1, .int y1), (2, .int y2)]) hx hb dX4_doubt_29 rfl hl (by decide) rfl (fun ls hl => ?_)
        refine lv_iconst (v := 0) hx hb dX4_doubt_30 (by decide) ?_
        refine lv_istore (lv' := [(4, .int 0), (3, .int x6), (0, .ref (a 0)), (1, .int y1), (2, .int y2)]) hx hb dX4_doubt_31 hl (by decide) rfl (fun ls hl => ?_)
        refine lv_iconst (v := 0) hx hb dX4_doubt_33 (by decide) ?_
        refine lv_istore (lv' := [(5, .int 0), (4, .int 0), (3, .int x6), (0, .ref (a 0)), (1, .int y1), (2, .int y2)]) hx hb dX4_doubt_34 hl (by decide) rfl (fun ls hl => ?_)
        obtain ⟨x8, h9, h⟩ := bd_s h
        have K30 : ∀ (ls : Array Slot) (H : Heap) (locs : List Loc), lv_has ls 6 [(4, .int x8.1)] → va_P D vwCl (rcW k a x8.2) H → va_D A0 (rcW k a x8.2) → va_S A0 s.heap H locs → W p l e rm_X4_doubt s m args below meth c H locs 0 0 Q (F0 m 92 ls []) := by
          intro ls H locs hl hP hD hS
          refine lv_iload hx hb dX4_doubt_92 (lv_at hl 0 rfl) ?_
          obtain rfl := Option.some.inj h
          exact hQ _ _ _ _ dX4_doubt_94 hP hS
        refine lp_W (P := fun z10 => ∀ (ls : Array Slot) (H : Heap) (locs : List Loc), lv_has ls 6 [(0, .ref (a 0)), (1, .int y1), (2, .int y2), (3, .int x6), (4, .int z10.1), (5, .int z10.2.1)] → va_P D vwCl (rcW k a z10.2.2) H → va_D A0 (rcW k a z10.2.2) → va_S A0 s.heap H locs → W p l e rm_X4_doubt s m args below meth c H locs 0 0 Q (F0 m 36 ls [])) (E := fun x8 => ∀ (ls : Array Slot) (H : Heap) (locs : List Loc), lv_has ls 6 [(4, .int x8.1)] → va_P D vwCl (rcW k a x8.2) H → va_D A0 (rcW k a x8.2) → va_S A0 s.heap H locs → W p l e rm_X4_doubt s m args below meth c H locs 0 0 Q (F0 m 92 ls [])) (fun z10 xx12 hB11 kI13 kE14 => ?_) _ _ _ h9 K30 ls s.heap [] (lv_sub hl [3, 4, 5, 2, 1, 0] rfl) hP hD hS
        intro ls H locs hl hP hD hS
        unfold f_X4_doubt_L36 at hB11
        refine lv_iload hx hb dX4_doubt_36 (lv_at hl 5 rfl) ?_
        refine lv_aload_n hx hb dX4_doubt_38 rfl (lv_at hl 0 rfl) ?_
        refine va_get (D := D) (ci := 4) (v := .ref (a 2)) (C := RX4) (T := TX4) (N := 5) hx hb hts hiRX4 hown hK hP 0 rfl rfl 0 (by decide) hf12 (fun _ h9 => h9) rfl dX4_doubt_39 ?_
        refine va_get (D := D) (ci := 1) (v := .int (((z10.2.2).1).2.2.1)) (C := RX1) (T := TX1) (N := 8) hx hb hts hiRX1 hown hK hP 2 rfl rfl 2 (by decide) hf63 (fun _ h9 => h9) rfl dX4_doubt_42 ?_
        refine lv_icmp_ge (tgt := 92) hx hb dX4_doubt_45 (by decide) (fun c15 => ?_) (fun c15 => ?_)
        · have hB11 := if_t hB11 c15
          exact kE14 _ (Option.some.inj hB11).symm ls H locs (lv_sub hl [4] rfl) hP hD hS
        · have hB11 := if_f hB11 c15
          refine lv_iload_n hx hb dX4_doubt_48 rfl (lv_at hl 3 rfl) ?_
          refine lv_iload hx hb dX4_doubt_49 (lv_at hl 5 rfl) ?_
          obtain ⟨x16, h17, hB11⟩ := bd_s hB11
          refine cR_S (As := [.int x6, .int z10.2.1]) (rest := []) (n := 2) (v := .int (b2i x16)) hx hb hml hown hts hK hN hl.1 (c_X4_isIn l D k x6 z10.2.1 x16 h17) gX4_doubt_X4_isIn rfl (by decide +kernel) ⟨⟨rfl, rfl⟩, by decide, by decide⟩ va_P_nil rfl rfl (Nat.le_of_ble_eq_true rfl) dX4_doubt_51 ⟨Nat.zero_le _, Nat.zero_le _⟩ ?_
          obtain ⟨x18, h19, hB11⟩ := bd_s hB11
          have K20 : ∀ (ls : Array Slot) (H : Heap) (locs : List Loc), lv_has ls 6 [(0, .ref (a 0)), (1, .int y1), (2, .int y2), (3, .int x6), (4, .int x18.1), (5, .int z10.2.1)] → va_P D vwCl (rcW k a x18.2) H → va_D A0 (rcW k a x18.2) → va_S A0 s.heap H locs → W p l e rm_X4_doubt s m args below meth c H locs 0 0 Q (F0 m 86 ls []) := by
            intro ls H locs hl hP hD hS
            refine lv_iinc (v := (z10.2.1 + 1)) (lv' := [(5, .int (z10.2.1 + 1)), (0, .ref (a 0)), (1, .int y1), (2, .int y2), (3, .int x6), (4, .int x18.1)]) hx hb dX4_doubt_86 hl (k := 5) rfl rfl (by decide) rfl (fun ls hl => ?_)
            refine lv_goto (tgt := 36) hx hb dX4_doubt_89 (by decide) ?_
            exact kI13 _ (Option.some.inj hB11).symm ls H locs (lv_sub hl [1, 2, 3, 4, 5, 0] rfl) hP hD hS
          refine lv_if_eq (tgt := 86) hx hb dX4_doubt_54 (by decide) (fun c21 => ?_) (fun c21 => ?_)
          · have h19 := if_t h19 c21
            obtain rfl := Option.some.inj h19
            exact K20 ls H locs (lv_sub hl [0, 1, 2, 3, 4, 5] rfl) hP hD hS
          · have h19 := if_f h19 c21
            refine lv_iload_n hx hb dX4_doubt_57 rfl (lv_at hl 3 rfl) ?_
            refine lv_iload hx hb dX4_doubt_58 (lv_at hl 5 rfl) ?_
            obtain ⟨x22, h23, h19⟩ := bd_s h19
            refine cR_S (As := [.int x6, .int z10.2.1]) (rest := []) (n := 2) (v := .int x22) hx hb hml hown hts hK hN hl.1 (c_X4_without l D k x6 z10.2.1 x22 h23) gX4_doubt_X4_without rfl (by decide +kernel) ⟨⟨rfl, rfl⟩, by decide, by decide⟩ va_P_nil rfl rfl (Nat.le_of_ble_eq_true rfl) dX4_doubt_60 ⟨Nat.zero_le _, Nat.zero_le _⟩ ?_
            refine lv_if_eq (tgt := 86) hx hb dX4_doubt_63 (by decide) (fun c24 => ?_) (fun c24 => ?_)
            · have h19 := if_t h19 c24
              obtain rfl := Option.some.inj h19
              exact K20 ls H locs (lv_sub hl [0, 1, 2, 3, 4, 5] rfl) hP hD hS
            · have h19 := if_f h19 c24
              refine lv_aload_n hx hb dX4_doubt_66 rfl (lv_at hl 0 rfl) ?_
              refine lv_iload_n hx hb dX4_doubt_67 rfl (lv_at hl 1 rfl) ?_
              refine lv_iload hx hb dX4_doubt_68 (lv_at hl 5 rfl) ?_
              refine lv_iload_n hx hb dX4_doubt_70 rfl (lv_at hl 2 rfl) ?_
              obtain ⟨x25, h26, h19⟩ := bd_s h19
              refine cM_V (As := [.int y1, .int z10.2.1, .int y2]) (rest := []) (n := 3) (ov := (some (.int (b2i x25.1)))) (wc := rcW k a z10.2.2) (wc' := rcW k a x25.2) (w1 := rcW k a x25.2) hx hb hml hown hts hK hN hl.1 hP hD hS (Sp.self (rc_ad k a _) (rc_ad k a _)) (c_X4_isDoubted l D k a z10.2.2 y1 z10.2.1 y2 x25 h26) gX4_doubt_X4_isDoubted rfl (by decide +kernel) ⟨⟨rfl, rfl⟩, by decide, by decide⟩ 0 4 rfl rfl rfl rfl rfl (Nat.le_of_ble_eq_true rfl) dX4_doubt_71 ⟨Nat.zero_le _, Nat.zero_le _⟩ (fun H locs hP hD hS => ?_)
              show W p l e rm_X4_doubt s m args below meth c H locs 0 0 Q (F0 m 74 ls [.int (b2i x25.1)])
              refine lv_if_eq (tgt := 86) hx hb dX4_doubt_74 (by decide) (fun c27 => ?_) (fun c27 => ?_)
              · have h19 := if_t h19 c27
                obtain rfl := Option.some.inj h19
                exact K20 ls H locs (lv_sub hl [0, 1, 2, 3, 4, 5] rfl) hP hD hS
              · have h19 := if_f h19 c27
                refine lv_iload hx hb dX4_doubt_77 (lv_at hl 4 rfl) ?_
                refine lv_iload hx hb dX4_doubt_79 (lv_at hl 5 rfl) ?_
                obtain ⟨x28, h29, h19⟩ := bd_s h19
                refine cR_S (As := [.int z10.1, .int z10.2.1]) (rest := []) (n := 2) (v := .int x28) hx hb hml hown hts hK hN hl.1 (c_X4_with l D k z10.1 z10.2.1 x28 h29) gX4_doubt_X4_with rfl (by decide +kernel) ⟨⟨rfl, rfl⟩, by decide, by decide⟩ va_P_nil rfl rfl (Nat.le_of_ble_eq_true rfl) dX4_doubt_81 ⟨Nat.zero_le _, Nat.zero_le _⟩ ?_
                refine lv_istore (lv' := [(4, .int x28), (0, .ref (a 0)), (1, .int y1), (2, .int y2), (3, .int x6), (5, .int z10.2.1)]) hx hb dX4_doubt_84 hl (by decide) rfl (fun ls hl => ?_)
                obtain rfl := Option.some.inj h19
                exact K20 ls H locs (lv_sub hl [1, 2, 3, 4, 0, 5] rfl) hP hD hS
      · have h := if_f h c5
        refine lv_bipush (v := (-2)) hx hb dX4_doubt_18 (by decide) ?_
        obtain rfl := Option.some.inj h
        exact hQ _ _ _ _ dX4_doubt_20 hP hS

abbrev rm_X4_kept : Room := { frames := 0, cells := 0, slots := 0, locals := 0 }
def f_X4_kept (R : RcV) (y1 : Int32) : Option (Int32) := if y1 < 0 then (some (-6)) else (if y1 < (R.2.2.2.2.1).2.1 then (gd (ix y1 6) (gd (decide ((((R.2.2.2.2.1).1) (y1 : Int32).toNatClampNeg) < 7)) (some (((R.2.2.2.2.1).2.2.2.2.2.2 (((R.2.2.2.2.1).1) (y1 : Int32).toNatClampNeg)).1)))) else (some (-6)))
set_option maxHeartbeats 4000000 in
set_option maxRecDepth 100000 in
theorem c_X4_kept (l : Launch) (D : va_G) (k : Nat → ClassId) (a : Nat → Nat) (R : RcV) (y1 : Int32) (r : Int32) (h : f_X4_kept R y1 = some r) : Met l yX4_kept wsX4_kept rm_X4_kept (va_Pc [.ref (a 0), .int y1] (RB D k (rcW k a R))) (QR (some (.int r))) 0 0 (fun _ => False) := by
  refine met_Ri (by decide) rfl (Nat.le_of_ble_eq_true rfl) ?_
  intro p e s m below meth c Q args ls hx hb hml hown hts hP hK hN hl hQ
  have hl : lv_has ls 2 [(0, .ref (a 0)), (1, .int y1)] := hl
  have hown : s.vm.findClass RX4 = some m.cls := hown
  unfold f_X4_kept at h
  have hiRX4 : ∀ w ∈ u_ws RX4 TX4 5, w ∈ wsX4_kept := by decide +kernel
  have hiRX3 : ∀ w ∈ u_ws RX3 TX3 7, w ∈ wsX4_kept := by decide +kernel
  have hiRX0 : ∀ w ∈ u_ws RX0 TX0 4, w ∈ wsX4_kept := by decide +kernel
  have hf27 := hts (.fieldLink RX4 27 "RainCells" "store" "LRainCells$Store;") (by decide +kernel)
  have hf194 := hts (.fieldLink RX4 194 "RainCells$Store" "size" "I") (by decide +kernel)
  have hf197 := hts (.fieldLink RX4 197 "RainCells$Store" "cells" "[LRainCells$Cells;") (by decide +kernel)
  have hf201 := hts (.fieldLink RX4 201 "RainCells$Cells" "set" "I") (by decide +kernel)
  refine lv_iload_n hx hb dX4_kept_0 rfl (lv_at hl 1 rfl) ?_
  refine lv_if_lt (tgt := 15) hx hb dX4_kept_1 (by decide) (fun c1 => ?_) (fun c1 => ?_)
  · have h := if_t h c1
    refine lv_bipush (v := (-6)) hx hb dX4_kept_15 (by decide) ?_
    obtain rfl := Option.some.inj h
    exact hQ _ _ dX4_kept_17
  · have h := if_f h c1
    refine lv_iload_n hx hb dX4_kept_4 rfl (lv_at hl 1 rfl) ?_
    refine lv_aload_n hx hb dX4_kept_5 rfl (lv_at hl 0 rfl) ?_
    refine va_get (D := D) (ci := 4) (v := .ref (a 26)) (C := RX4) (T := TX4) (N := 5) hx hb hts hiRX4 hown hK hP 0 rfl rfl 3 (by decide) hf27 (fun _ h9 => h9) rfl dX4_kept_6 ?_
    refine va_get (D := D) (ci := 3) (v := .int ((R.2.2.2.2.1).2.1)) (C := RX3) (T := TX3) (N := 7) hx hb hts hiRX3 hown hK hP 26 rfl rfl 1 (by decide) hf194 (fun _ h9 => h9) rfl dX4_kept_9 ?_
    refine lv_icmp_lt (tgt := 18) hx hb dX4_kept_12 (by decide) (fun c2 => ?_) (fun c2 => ?_)
    · have h := if_t h c2
      refine lv_aload_n hx hb dX4_kept_18 rfl (lv_at hl 0 rfl) ?_
      refine va_get (D := D) (ci := 4) (v := .ref (a 26)) (C := RX4) (T := TX4) (N := 5) hx hb hts hiRX4 hown hK hP 0 rfl rfl 3 (by decide) hf27 (fun _ h9 => h9) rfl dX4_kept_19 ?_
      refine va_get (D := D) (ci := 3) (v := .ref (a 27)) (C := RX3) (T := TX3) (N := 7) hx hb hts hiRX3 hown hK hP 26 rfl rfl 0 (by decide) hf197 (fun _ h9 => h9) rfl dX4_kept_22 ?_
      refine lv_iload_n hx hb dX4_kept_25 rfl (lv_at hl 1 rfl) ?_
      obtain ⟨c3, h⟩ := gd_s h
      obtain ⟨c4, h⟩ := gd_s h
      refine va_aldq (D := D) hx hb hK hP 27 3 rfl rfl (ix_in c3) dX4_kept_26 ?_
      show W p l e rm_X4_kept s m args below meth c s.heap [] 0 0 Q (F0 m 27 ls [.ref (a (26 + (3 + 4 * (((R.2.2.2.2.1).1) (y1 : Int32).toNatClampNeg))))])
      refine va_get (D := D) (ci := 0) (v := .int (((R.2.2.2.2.1).2.2.2.2.2.2 (((R.2.2.2.2.1).1) (y1 : Int32).toNatClampNeg)).1)) (C := RX0) (T := TX0) (N := 4) hx hb hts hiRX0 hown hK (rc_cell (of_decide_eq_true c4) (hP)) 0 rfl rfl 0 (by decide) hf201 (fun _ h9 => h9) rfl dX4_kept_27 ?_
      obtain rfl := Option.some.inj h
      exact hQ _ _ dX4_kept_30
    · have h := if_f h c2
      refine lv_bipush (v := (-6)) hx hb dX4_kept_15 (by decide) ?_
      obtain rfl := Option.some.inj h
      exact hQ _ _ dX4_kept_17

abbrev rm_X4_image : Room := { frames := 2, cells := 0, slots := 0, locals := 61 }
def f_X4_image (R : RcV) (y1 : Int32) : Option (Int32 × RcV) := if y1 < 0 then (some ((-2), R)) else (if y1 < 2 then (gd (ix y1 2) (if y1 = 0 then ((f_X1_copyFrom R.2.1 R.1).bind (fun x5 => (f_X4_with R.2.2.2.1 y1).bind (fun x7 => some (1, (R.1, x5, R.2.2.1, x7, R.2.2.2.2))))) else ((f_X1_copyFrom R.2.2.1 R.1).bind (fun x9 => (f_X4_with R.2.2.2.1 y1).bind (fun x11 => some (1, (R.1, R.2.1, x9, x11, R.2.2.2.2))))))) else (some ((-2), R)))
set_option maxHeartbeats 4000000 in
set_option maxRecDepth 100000 in
theorem c_X4_image (l : Launch) (D : va_G) (k : Nat → ClassId) (a : Nat → Nat) (R : RcV) (y1 : Int32) (r : Int32 × RcV) (h : f_X4_image R y1 = some r) : Met l yX4_image wsX4_image rm_X4_image (va_Pc [.ref (a 0), .int y1] (MB D k (rcW k a R))) (QM D (rcW k a R) (rcW k a r.2) (some (.int r.1))) 0 0 (AD (rcW k a R)) := by
  refine met_Mi (by decide) rfl (Nat.le_of_ble_eq_true rfl) ?_
  intro p e s m below meth c Q args ls hx hb hml hown hts hP hK hN hD hl hQ
  have hl : lv_has ls 2 [(0, .ref (a 0)), (1, .int y1)] := hl
  have hown : s.vm.findClass RX4 = some m.cls := hown
  unfold f_X4_image at h
  have hiRX4 : ∀ w ∈ u_ws RX4 TX4 5, w ∈ wsX4_image := by decide +kernel
  have hf16 := hts (.fieldLink RX4 16 "RainCells" "images" "[LRainCells$Scene;") (by decide +kernel)
  have hf12 := hts (.fieldLink RX4 12 "RainCells" "scene" "LRainCells$Scene;") (by decide +kernel)
  have hf20 := hts (.fieldLink RX4 20 "RainCells" "imagesKept" "I") (by decide +kernel)
  generalize AD (rcW k a R) = A0 at hD hQ
  have hS : va_S A0 s.heap s.heap [] := va_S.rf
  refine lv_iload_n hx hb dX4_image_0 rfl (lv_at hl 1 rfl) ?_
  refine lv_if_lt (tgt := 9) hx hb dX4_image_1 (by decide) (fun c1 => ?_) (fun c1 => ?_)
  · have h := if_t h c1
    refine lv_bipush (v := (-2)) hx hb dX4_image_9 (by decide) ?_
    obtain rfl := Option.some.inj h
    exact hQ _ _ _ _ dX4_image_11 hP hS
  · have h := if_f h c1
    refine lv_iload_n hx hb dX4_image_4 rfl (lv_at hl 1 rfl) ?_
    refine lv_iconst (v := 2) hx hb dX4_image_5 (by decide) ?_
    refine lv_icmp_lt (tgt := 12) hx hb dX4_image_6 (by decide) (fun c2 => ?_) (fun c2 => ?_)
    · have h := if_t h c2
      refine lv_aload_n hx hb dX4_image_12 rfl (lv_at hl 0 rfl) ?_
      refine va_get (D := D) (ci := 4) (v := .ref (a 1)) (C := RX4) (T := TX4) (N := 5) hx hb hts hiRX4 hown hK hP 0 rfl rfl 1 (by decide) hf16 (fun _ h9 => h9) rfl dX4_image_13 ?_
      refine lv_iload_n hx hb dX4_image_16 rfl (lv_at hl 1 rfl) ?_
      obtain ⟨c3, h⟩ := gd_s h
      refine va_aldq (D := D) hx hb hK hP 1 4 rfl rfl (ix_in c3) dX4_image_17 ?_
      by_cases c4 : y1 = 0
      · have h := if_t h c4
        rw [im0 c4]
        show W p l e rm_X4_image s m args below meth c s.heap [] 0 0 Q (F0 m 18 ls [.ref (a 10)])
        refine lv_aload_n hx hb dX4_image_18 rfl (lv_at hl 0 rfl) ?_
        refine va_get (D := D) (ci := 4) (v := .ref (a 2)) (C := RX4) (T := TX4) (N := 5) hx hb hts hiRX4 hown hK hP 0 rfl rfl 0 (by decide) hf12 (fun _ h9 => h9) rfl dX4_image_19 ?_
        obtain ⟨x5, h6, h⟩ := bd_s h
        refine cM_V (As := [.ref (a 2)]) (rest := []) (n := 1) (ov := none) (wc := sceneW k (fun j => a (10 + j)) R.2.1 ++ (sceneW k (fun j => a (2 + j)) R.1)) (wc' := sceneW k (fun j => a (10 + j)) x5 ++ (sceneW k (fun j => a (2 + j)) R.1)) (w1 := rcW k a (R.1, x5, R.2.2)) hx hb hml hown hts hK hN hl.1 hP hD hS rcs_i0_sc (c_X1_copyFrom l D k (fun j => a (10 + j)) (fun j => a (2 + j)) R.2.1 R.1 x5 h6) gX4_image_X1_copyFrom rfl (by decide +kernel) ⟨⟨rfl, rfl⟩, by decide, by decide⟩ 0 1 rfl rfl rfl rfl rfl (Nat.le_of_ble_eq_true rfl) dX4_image_22 ⟨Nat.zero_le _, Nat.zero_le _⟩ (fun H locs hP hD hS => ?_)
        show W p l e rm_X4_image s m args below meth c H locs 0 0 Q (F0 m 25 ls [])
        refine lv_aload_n hx hb dX4_image_25 rfl (lv_at hl 0 rfl) ?_
        refine lv_aload_n hx hb dX4_image_26 rfl (lv_at hl 0 rfl) ?_
        refine va_get (D := D) (ci := 4) (v := .int R.2.2.2.1) (C := RX4) (T := TX4) (N := 5) hx hb hts hiRX4 hown hK hP 0 rfl rfl 2 (by decide) hf20 (fun _ h9 => h9) rfl dX4_image_27 ?_
        refine lv_iload_n hx hb dX4_image_30 rfl (lv_at hl 1 rfl) ?_
        obtain ⟨x7, h8, h⟩ := bd_s h
        refine cR_S (As := [.int R.2.2.2.1, .int y1]) (rest := [.ref (a 0)]) (n := 2) (v := .int x7) hx hb hml hown hts hK hN hl.1 (c_X4_with l D k R.2.2.2.1 y1 x7 h8) gX4_image_X4_with rfl (by decide +kernel) ⟨⟨rfl, rfl⟩, by decide, by decide⟩ va_P_nil rfl rfl (Nat.le_of_ble_eq_true rfl) dX4_image_31 ⟨Nat.zero_le _, Nat.zero_le _⟩ ?_
        refine va_put (D := D) (ci := 4) (v := .int x7) (ty := .int) (C := RX4) (T := TX4) (N := 5) hx hb hts hiRX4 tyX4 tyX4_ok nmX4 hown hK hP hD hS 0 rfl rfl 2 (by decide) hf20 (fun _ h9 => h9) rfl (by decide +kernel) rfl rfl (Nat.le_of_ble_eq_true rfl) dX4_image_34 (fun H locs hP hD hS => ?_)
        have hP : va_P D vwCl (rcW k a (R.1, x5, R.2.2.1, x7, R.2.2.2.2)) H := hP
        have hD : va_D A0 (rcW k a (R.1, x5, R.2.2.1, x7, R.2.2.2.2)) := hD
        refine lv_iconst (v := 1) hx hb dX4_image_37 (by decide) ?_
        obtain rfl := Option.some.inj h
        exact hQ _ _ _ _ dX4_image_38 hP hS
      · have h := if_f h c4
        rw [im1 c3 c4]
        show W p l e rm_X4_image s m args below meth c s.heap [] 0 0 Q (F0 m 18 ls [.ref (a 18)])
        refine lv_aload_n hx hb dX4_image_18 rfl (lv_at hl 0 rfl) ?_
        refine va_get (D := D) (ci := 4) (v := .ref (a 2)) (C := RX4) (T := TX4) (N := 5) hx hb hts hiRX4 hown hK hP 0 rfl rfl 0 (by decide) hf12 (fun _ h9 => h9) rfl dX4_image_19 ?_
        obtain ⟨x9, h10, h⟩ := bd_s h
        refine cM_V (As := [.ref (a 2)]) (rest := []) (n := 1) (ov := none) (wc := sceneW k (fun j => a (18 + j)) R.2.2.1 ++ (sceneW k (fun j => a (2 + j)) R.1)) (wc' := sceneW k (fun j => a (18 + j)) x9 ++ (sceneW k (fun j => a (2 + j)) R.1)) (w1 := rcW k a (R.1, R.2.1, x9, R.2.2.2)) hx hb hml hown hts hK hN hl.1 hP hD hS rcs_i1_sc (c_X1_copyFrom l D k (fun j => a (18 + j)) (fun j => a (2 + j)) R.2.2.1 R.1 x9 h10) gX4_image_X1_copyFrom rfl (by decide +kernel) ⟨⟨rfl, rfl⟩, by decide, by decide⟩ 0 1 rfl rfl rfl rfl rfl (Nat.le_of_ble_eq_true rfl) dX4_image_22 ⟨Nat.zero_le _, Nat.zero_le _⟩ (fun H locs hP hD hS => ?_)
        show W p l e rm_X4_image s m args below meth c H locs 0 0 Q (F0 m 25 ls [])
        refine lv_aload_n hx hb dX4_image_25 rfl (lv_at hl 0 rfl) ?_
        refine lv_aload_n hx hb dX4_image_26 rfl (lv_at hl 0 rfl) ?_
        refine va_get (D := D) (ci := 4) (v := .int R.2.2.2.1) (C := RX4) (T := TX4) (N := 5) hx hb hts hiRX4 hown hK hP 0 rfl rfl 2 (by decide) hf20 (fun _ h9 => h9) rfl dX4_image_27 ?_
        refine lv_iload_n hx hb dX4_image_30 rfl (lv_at hl 1 rfl) ?_
        obtain ⟨x11, h12, h⟩ := bd_s h
        refine cR_S (As := [.int R.2.2.2.1, .int y1]) (rest := [.ref (a 0)]) (n := 2) (v := .int x11) hx hb hml hown hts hK hN hl.1 (c_X4_with l D k R.2.2.2.1 y1 x11 h12) gX4_image_X4_with rfl (by decide +kernel) ⟨⟨rfl, rfl⟩, by decide, by decide⟩ va_P_nil rfl rfl (Nat.le_of_ble_eq_true rfl) dX4_image_31 ⟨Nat.zero_le _, Nat.zero_le _⟩ ?_
        refine va_put (D := D) (ci := 4) (v := .int x11) (ty := .int) (C := RX4) (T := TX4) (N := 5) hx hb hts hiRX4 tyX4 tyX4_ok nmX4 hown hK hP hD hS 0 rfl rfl 2 (by decide) hf20 (fun _ h9 => h9) rfl (by decide +kernel) rfl rfl (Nat.le_of_ble_eq_true rfl) dX4_image_34 (fun H locs hP hD hS => ?_)
        have hP : va_P D vwCl (rcW k a (R.1, R.2.1, x9, x11, R.2.2.2.2)) H := hP
        have hD : va_D A0 (rcW k a (R.1, R.2.1, x9, x11, R.2.2.2.2)) := hD
        refine lv_iconst (v := 1) hx hb dX4_image_37 (by decide) ?_
        obtain rfl := Option.some.inj h
        exact hQ _ _ _ _ dX4_image_38 hP hS
    · have h := if_f h c2
      refine lv_bipush (v := (-2)) hx hb dX4_image_9 (by decide) ?_
      obtain rfl := Option.some.inj h
      exact hQ _ _ _ _ dX4_image_11 hP hS

abbrev rm_X4_restore : Room := { frames := 2, cells := 0, slots := 0, locals := 61 }
def f_X4_restore (R : RcV) (y1 : Int32) : Option (Int32 × RcV) := if y1 < 0 then (some ((-2), R)) else (if y1 < 2 then ((f_X4_isIn R.2.2.2.1 y1).bind (fun x3 => if (b2i x3) = 0 then (some ((-3), R)) else (gd (ix y1 2) (if y1 = 0 then ((f_X1_copyFrom R.1 R.2.1).bind (fun x8 => (f_X3_letAllGo R.2.2.2.2.1).bind (fun x10 => some (1, (x8, R.2.1, R.2.2.1, R.2.2.2.1, x10, R.2.2.2.2.2))))) else ((f_X1_copyFrom R.1 R.2.2.1).bind (fun x12 => (f_X3_letAllGo R.2.2.2.2.1).bind (fun x14 => some (1, (x12, R.2.1, R.2.2.1, R.2.2.2.1, x14, R.2.2.2.2.2))))))))) else (some ((-2), R)))
set_option maxHeartbeats 4000000 in
set_option maxRecDepth 100000 in
theorem c_X4_restore (l : Launch) (D : va_G) (k : Nat → ClassId) (a : Nat → Nat) (R : RcV) (y1 : Int32) (r : Int32 × RcV) (h : f_X4_restore R y1 = some r) : Met l yX4_restore wsX4_restore rm_X4_restore (va_Pc [.ref (a 0), .int y1] (MB D k (rcW k a R))) (QM D (rcW k a R) (rcW k a r.2) (some (.int r.1))) 0 0 (AD (rcW k a R)) := by
  refine met_Mi (by decide) rfl (Nat.le_of_ble_eq_true rfl) ?_
  intro p e s m below meth c Q args ls hx hb hml hown hts hP hK hN hD hl hQ
  have hl : lv_has ls 2 [(0, .ref (a 0)), (1, .int y1)] := hl
  have hown : s.vm.findClass RX4 = some m.cls := hown
  unfold f_X4_restore at h
  have hiRX4 : ∀ w ∈ u_ws RX4 TX4 5, w ∈ wsX4_restore := by decide +kernel
  have hf20 := hts (.fieldLink RX4 20 "RainCells" "imagesKept" "I") (by decide +kernel)
  have hf12 := hts (.fieldLink RX4 12 "RainCells" "scene" "LRainCells$Scene;") (by decide +kernel)
  have hf16 := hts (.fieldLink RX4 16 "RainCells" "images" "[LRainCells$Scene;") (by decide +kernel)
  have hf27 := hts (.fieldLink RX4 27 "RainCells" "store" "LRainCells$Store;") (by decide +kernel)
  generalize AD (rcW k a R) = A0 at hD hQ
  have hS : va_S A0 s.heap s.heap [] := va_S.rf
  refine lv_iload_n hx hb dX4_restore_0 rfl (lv_at hl 1 rfl) ?_
  refine lv_if_lt (tgt := 9) hx hb dX4_restore_1 (by decide) (fun c1 => ?_) (fun c1 => ?_)
  · have h := if_t h c1
    refine lv_bipush (v := (-2)) hx hb dX4_restore_9 (by decide) ?_
    obtain rfl := Option.some.inj h
    exact hQ _ _ _ _ dX4_restore_11 hP hS
  · have h := if_f h c1
    refine lv_iload_n hx hb dX4_restore_4 rfl (lv_at hl 1 rfl) ?_
    refine lv_iconst (v := 2) hx hb dX4_restore_5 (by decide) ?_
    refine lv_icmp_lt (tgt := 12) hx hb dX4_restore_6 (by decide) (fun c2 => ?_) (fun c2 => ?_)
    · have h := if_t h c2
      refine lv_aload_n hx hb dX4_restore_12 rfl (lv_at hl 0 rfl) ?_
      refine va_get (D := D) (ci := 4) (v := .int R.2.2.2.1) (C := RX4) (T := TX4) (N := 5) hx hb hts hiRX4 hown hK hP 0 rfl rfl 2 (by decide) hf20 (fun _ h9 => h9) rfl dX4_restore_13 ?_
      refine lv_iload_n hx hb dX4_restore_16 rfl (lv_at hl 1 rfl) ?_
      obtain ⟨x3, h4, h⟩ := bd_s h
      refine cR_S (As := [.int R.2.2.2.1, .int y1]) (rest := []) (n := 2) (v := .int (b2i x3)) hx hb hml hown hts hK hN hl.1 (c_X4_isIn l D k R.2.2.2.1 y1 x3 h4) gX4_restore_X4_isIn rfl (by decide +kernel) ⟨⟨rfl, rfl⟩, by decide, by decide⟩ va_P_nil rfl rfl (Nat.le_of_ble_eq_true rfl) dX4_restore_17 ⟨Nat.zero_le _, Nat.zero_le _⟩ ?_
      refine lv_if_ne (tgt := 26) hx hb dX4_restore_20 (by decide) (fun c5 => ?_) (fun c5 => ?_)
      · have h := if_f h c5
        refine lv_aload_n hx hb dX4_restore_26 rfl (lv_at hl 0 rfl) ?_
        refine va_get (D := D) (ci := 4) (v := .ref (a 2)) (C := RX4) (T := TX4) (N := 5) hx hb hts hiRX4 hown hK hP 0 rfl rfl 0 (by decide) hf12 (fun _ h9 => h9) rfl dX4_restore_27 ?_
        refine lv_aload_n hx hb dX4_restore_30 rfl (lv_at hl 0 rfl) ?_
        refine va_get (D := D) (ci := 4) (v := .ref (a 1)) (C := RX4) (T := TX4) (N := 5) hx hb hts hiRX4 hown hK hP 0 rfl rfl 1 (by decide) hf16 (fun _ h9 => h9) rfl dX4_restore_31 ?_
        refine lv_iload_n hx hb dX4_restore_34 rfl (lv_at hl 1 rfl) ?_
        obtain ⟨c6, h⟩ := gd_s h
        refine va_aldq (D := D) hx hb hK hP 1 4 rfl rfl (ix_in c6) dX4_restore_35 ?_
        by_cases c7 : y1 = 0
        · have h := if_t h c7
          rw [im0 c7]
          show W p l e rm_X4_restore s m args below meth c s.heap [] 0 0 Q (F0 m 36 ls [.ref (a 10), .ref (a 2)])
          obtain ⟨x8, h9, h⟩ := bd_s h
          refine cM_V (As := [.ref (a 10)]) (rest := []) (n := 1) (ov := none) (wc := sceneW k (fun j => a (2 + j)) R.1 ++ (sceneW k (fun j => a (10 + j)) R.2.1)) (wc' := sceneW k (fun j => a (2 + j)) x8 ++ (sceneW k (fun j => a (10 + j)) R.2.1)) (w1 := rcW k a (x8, R.2)) hx hb hml hown hts hK hN hl.1 hP hD hS rcs_sc_i0 (c_X1_copyFrom l D k (fun j => a (2 + j)) (fun j => a (10 + j)) R.1 R.2.1 x8 h9) gX4_restore_X1_copyFrom rfl (by decide +kernel) ⟨⟨rfl, rfl⟩, by decide, by decide⟩ 0 1 rfl rfl rfl rfl rfl (Nat.le_of_ble_eq_true rfl) dX4_restore_36 ⟨Nat.zero_le _, Nat.zero_le _⟩ (fun H locs hP hD hS => ?_)
          show W p l e rm_X4_restore s m args below meth c H locs 0 0 Q (F0 m 39 ls [])
          refine lv_aload_n hx hb dX4_restore_39 rfl (lv_at hl 0 rfl) ?_
          refine va_get (D := D) (ci := 4) (v := .ref (a 26)) (C := RX4) (T := TX4) (N := 5) hx hb hts hiRX4 hown hK hP 0 rfl rfl 3 (by decide) hf27 (fun _ h9 => h9) rfl dX4_restore_40 ?_
          obtain ⟨x10, h11, h⟩ := bd_s h
          refine cM_V (As := []) (rest := []) (n := 0) (ov := none) (wc := storeW k (fun j => a (26 + j)) R.2.2.2.2.1) (wc' := storeW k (fun j => a (26 + j)) x10) (w1 := rcW k a (x8, R.2.1, R.2.2.1, R.2.2.2.1, x10, R.2.2.2.2.2)) hx hb hml hown hts hK hN hl.1 hP hD hS rcs_st (c_X3_letAllGo l D k (fun j => a (26 + j)) R.2.2.2.2.1 x10 h11) gX4_restore_X3_letAllGo rfl (by decide +kernel) ⟨⟨rfl, rfl⟩, by decide, by decide⟩ 0 3 rfl rfl rfl rfl rfl (Nat.le_of_ble_eq_true rfl) dX4_restore_43 ⟨Nat.zero_le _, Nat.zero_le _⟩ (fun H locs hP hD hS => ?_)
          show W p l e rm_X4_restore s m args below meth c H locs 0 0 Q (F0 m 46 ls [])
          refine lv_iconst (v := 1) hx hb dX4_restore_46 (by decide) ?_
          obtain rfl := Option.some.inj h
          exact hQ _ _ _ _ dX4_restore_47 hP hS
        · have h := if_f h c7
          rw [im1 c6 c7]
          show W p l e rm_X4_restore s m args below meth c s.heap [] 0 0 Q (F0 m 36 ls [.ref (a 18), .ref (a 2)])
          obtain ⟨x12, h13, h⟩ := bd_s h
          refine cM_V (As := [.ref (a 18)]) (rest := []) (n := 1) (ov := none) (wc := sceneW k (fun j => a (2 + j)) R.1 ++ (sceneW k (fun j => a (18 + j)) R.2.2.1)) (wc' := sceneW k (fun j => a (2 + j)) x12 ++ (sceneW k (fun j => a (18 + j)) R.2.2.1)) (w1 := rcW k a (x12, R.2)) hx hb hml hown hts hK hN hl.1 hP hD hS rcs_sc_i1 (c_X1_copyFrom l D k (fun j => a (2 + j)) (fun j => a (18 + j)) R.1 R.2.2.1 x12 h13) gX4_restore_X1_copyFrom rfl (by decide +kernel) ⟨⟨rfl, rfl⟩, by decide, by decide⟩ 0 1 rfl rfl rfl rfl rfl (Nat.le_of_ble_eq_true rfl) dX4_restore_36 ⟨Nat.zero_le _, Nat.zero_le _⟩ (fun H locs hP hD hS => ?_)
          show W p l e rm_X4_restore s m args below meth c H locs 0 0 Q (F0 m 39 ls [])
          refine lv_aload_n hx hb dX4_restore_39 rfl (lv_at hl 0 rfl) ?_
          refine va_get (D := D) (ci := 4) (v := .ref (a 26)) (C := RX4) (T := TX4) (N := 5) hx hb hts hiRX4 hown hK hP 0 rfl rfl 3 (by decide) hf27 (fun _ h9 => h9) rfl dX4_restore_40 ?_
          obtain ⟨x14, h15, h⟩ := bd_s h
          refine cM_V (As := []) (rest := []) (n := 0) (ov := none) (wc := storeW k (fun j => a (26 + j)) R.2.2.2.2.1) (wc' := storeW k (fun j => a (26 + j)) x14) (w1 := rcW k a (x12, R.2.1, R.2.2.1, R.2.2.2.1, x14, R.2.2.2.2.2)) hx hb hml hown hts hK hN hl.1 hP hD hS rcs_st (c_X3_letAllGo l D k (fun j => a (26 + j)) R.2.2.2.2.1 x14 h15) gX4_restore_X3_letAllGo rfl (by decide +kernel) ⟨⟨rfl, rfl⟩, by decide, by decide⟩ 0 3 rfl rfl rfl rfl rfl (Nat.le_of_ble_eq_true rfl) dX4_restore_43 ⟨Nat.zero_le _, Nat.zero_le _⟩ (fun H locs hP hD hS => ?_)
          show W p l e rm_X4_restore s m args below meth c H locs 0 0 Q (F0 m 46 ls [])
          refine lv_iconst (v := 1) hx hb dX4_restore_46 (by decide) ?_
          obtain rfl := Option.some.inj h
          exact hQ _ _ _ _ dX4_restore_47 hP hS
      · have h := if_t h c5
        refine lv_bipush (v := (-3)) hx hb dX4_restore_23 (by decide) ?_
        obtain rfl := Option.some.inj h
        exact hQ _ _ _ _ dX4_restore_25 hP hS
    · have h := if_f h c2
      refine lv_bipush (v := (-2)) hx hb dX4_restore_9 (by decide) ?_
      obtain rfl := Option.some.inj h
      exact hQ _ _ _ _ dX4_restore_11 hP hS

abbrev rm_X4_count : Room := { frames := 2, cells := 0, slots := 0, locals := 43 }
def f_X4_count (R : RcV) (y1 : Int32) : Option (Int32) := if y1 < 10 then (if y1 < 30 then (if y1 = 0 then (some ((R.1).2.2.1)) else (if y1 = 1 then ((f_X1_plotCount R.1).bind (fun x5 => some x5)) else (if y1 = 2 then (some ((R.2.2.2.2.1).2.1)) else (if y1 = 3 then (some ((R.2.2.2.2.1).2.2.1)) else (if y1 = 4 then (some ((R.2.2.2.2.1).2.2.2.1)) else (if y1 = 5 then (some ((R.2.2.2.2.1).2.2.2.2.1)) else (if y1 = 6 then (some R.2.2.2.1) else (some (-2))))))))) else (if 46 ≤ y1 then (if y1 = 0 then (some ((R.1).2.2.1)) else (if y1 = 1 then ((f_X1_plotCount R.1).bind (fun x15 => some x15)) else (if y1 = 2 then (some ((R.2.2.2.2.1).2.1)) else (if y1 = 3 then (some ((R.2.2.2.2.1).2.2.1)) else (if y1 = 4 then (some ((R.2.2.2.2.1).2.2.2.1)) else (if y1 = 5 then (some ((R.2.2.2.2.1).2.2.2.2.1)) else (if y1 = 6 then (some R.2.2.2.1) else (some (-2))))))))) else ((f_X1_rowHasPlots R.1 (y1 - 30)).bind (fun x22 => if (b2i x22) = 0 then (some (-6)) else (gd (ix (y1 - 30) 16) (some (((R.1).2.1) ((y1 - 30) : Int32).toNatClampNeg))))))) else (if 26 ≤ y1 then (if y1 < 30 then (if y1 = 0 then (some ((R.1).2.2.1)) else (if y1 = 1 then ((f_X1_plotCount R.1).bind (fun x30 => some x30)) else (if y1 = 2 then (some ((R.2.2.2.2.1).2.1)) else (if y1 = 3 then (some ((R.2.2.2.2.1).2.2.1)) else (if y1 = 4 then (some ((R.2.2.2.2.1).2.2.2.1)) else (if y1 = 5 then (some ((R.2.2.2.2.1).2.2.2.2.1)) else (if y1 = 6 then (some R.2.2.2.1) else (some (-2))))))))) else (if 46 ≤ y1 then (if y1 = 0 then (some ((R.1).2.2.1)) else (if y1 = 1 then ((f_X1_plotCount R.1).bind (fun x40 => some x40)) else (if y1 = 2 then (some ((R.2.2.2.2.1).2.1)) else (if y1 = 3 then (some ((R.2.2.2.2.1).2.2.1)) else (if y1 = 4 then (some ((R.2.2.2.2.1).2.2.2.1)) else (if y1 = 5 then (some ((R.2.2.2.2.1).2.2.2.2.1)) else (if y1 = 6 then (some R.2.2.2.1) else (some (-2))))))))) else ((f_X1_rowHasPlots R.1 (y1 - 30)).bind (fun x47 => if (b2i x47) = 0 then (some (-6)) else (gd (ix (y1 - 30) 16) (some (((R.1).2.1) ((y1 - 30) : Int32).toNatClampNeg))))))) else ((f_X1_rowHasPlots R.1 (y1 - 10)).bind (fun x51 => if (b2i x51) = 0 then (some (-6)) else (gd (ix (y1 - 10) 16) (some (((R.1).1) ((y1 - 10) : Int32).toNatClampNeg))))))
set_option maxHeartbeats 4000000 in
set_option maxRecDepth 100000 in
theorem c_X4_count (l : Launch) (D : va_G) (k : Nat → ClassId) (a : Nat → Nat) (R : RcV) (y1 : Int32) (r : Int32) (h : f_X4_count R y1 = some r) : Met l yX4_count wsX4_count rm_X4_count (va_Pc [.ref (a 0), .int y1] (RB D k (rcW k a R))) (QR (some (.int r))) 0 0 (fun _ => False) := by
  refine met_Ri (by decide) rfl (Nat.le_of_ble_eq_true rfl) ?_
  intro p e s m below meth c Q args ls hx hb hml hown hts hP hK hN hl hQ
  have hl : lv_has ls 3 [(0, .ref (a 0)), (1, .int y1)] := hl
  have hown : s.vm.findClass RX4 = some m.cls := hown
  unfold f_X4_count at h
  have hiRX4 : ∀ w ∈ u_ws RX4 TX4 5, w ∈ wsX4_count := by decide +kernel
  have hiRX1 : ∀ w ∈ u_ws RX1 TX1 8, w ∈ wsX4_count := by decide +kernel
  have hiRX3 : ∀ w ∈ u_ws RX3 TX3 7, w ∈ wsX4_count := by decide +kernel
  have hf12 := hts (.fieldLink RX4 12 "RainCells" "scene" "LRainCells$Scene;") (by decide +kernel)
  have hf63 := hts (.fieldLink RX4 63 "RainCells$Scene" "gauges" "I") (by decide +kernel)
  have hf27 := hts (.fieldLink RX4 27 "RainCells" "store" "LRainCells$Store;") (by decide +kernel)
  have hf194 := hts (.fieldLink RX4 194 "RainCells$Store" "size" "I") (by decide +kernel)
  have hf211 := hts (.fieldLink RX4 211 "RainCells$Store" "found" "I") (by decide +kernel)
  have hf214 := hts (.fieldLink RX4 214 "RainCells$Store" "workedOut" "I") (by decide +kernel)
  have hf217 := hts (.fieldLink RX4 217 "RainCells$Store" "replaced" "I") (by decide +kernel)
  have hf20 := hts (.fieldLink RX4 20 "RainCells" "imagesKept" "I") (by decide +kernel)
  have hf46 := hts (.fieldLink RX4 46 "RainCells$Scene" "rowTo" "[I") (by decide +kernel)
  have hf42 := hts (.fieldLink RX4 42 "RainCells$Scene" "rowFrom" "[I") (by decide +kernel)
  refine lv_iload_n hx hb dX4_count_0 rfl (lv_at hl 1 rfl) ?_
  refine lv_bipush (v := 10) hx hb dX4_count_1 (by decide) ?_
  refine lv_icmp_lt (tgt := 43) hx hb dX4_count_3 (by decide) (fun c1 => ?_) (fun c1 => ?_)
  · have h := if_t h c1
    refine lv_iload_n hx hb dX4_count_43 rfl (lv_at hl 1 rfl) ?_
    refine lv_bipush (v := 30) hx hb dX4_count_44 (by decide) ?_
    refine lv_icmp_lt (tgt := 86) hx hb dX4_count_46 (by decide) (fun c2 => ?_) (fun c2 => ?_)
    · have h := if_t h c2
      refine lv_iload_n hx hb dX4_count_86 rfl (lv_at hl 1 rfl) ?_
      by_cases c3 : y1 = 0
      · have h := if_t h c3
        refine lv_tableIn (tgt := 128) hx hb dX4_count_87 (by rw [c3]; decide) (by rw [c3]; decide) (by rw [c3]; rfl) (by decide) ?_
        refine lv_aload_n hx hb dX4_count_128 rfl (lv_at hl 0 rfl) ?_
        refine va_get (D := D) (ci := 4) (v := .ref (a 2)) (C := RX4) (T := TX4) (N := 5) hx hb hts hiRX4 hown hK hP 0 rfl rfl 0 (by decide) hf12 (fun _ h9 => h9) rfl dX4_count_129 ?_
        refine va_get (D := D) (ci := 1) (v := .int ((R.1).2.2.1)) (C := RX1) (T := TX1) (N := 8) hx hb hts hiRX1 hown hK hP 2 rfl rfl 2 (by decide) hf63 (fun _ h9 => h9) rfl dX4_count_132 ?_
        obtain rfl := Option.some.inj h
        exact hQ _ _ dX4_count_135
      have h := if_f h c3
      by_cases c4 : y1 = 1
      · have h := if_t h c4
        refine lv_tableIn (tgt := 136) hx hb dX4_count_87 (by rw [c4]; decide) (by rw [c4]; decide) (by rw [c4]; rfl) (by decide) ?_
        refine lv_aload_n hx hb dX4_count_136 rfl (lv_at hl 0 rfl) ?_
        refine va_get (D := D) (ci := 4) (v := .ref (a 2)) (C := RX4) (T := TX4) (N := 5) hx hb hts hiRX4 hown hK hP 0 rfl rfl 0 (by decide) hf12 (fun _ h9 => h9) rfl dX4_count_137 ?_
        obtain ⟨x5, h6, h⟩ := bd_s h
        refine cR_V (As := []) (rest := []) (n := 0) (v := .int x5) hx hb hml hown hts hK hN hl.1 (c_X1_plotCount l D k (fun j => a (2 + j)) R.1 x5 h6) gX4_count_X1_plotCount rfl (by decide +kernel) ⟨⟨rfl, rfl⟩, by decide, by decide⟩ (hP.sub (ws' := sceneW k (fun j => a (2 + j)) R.1) [2, 3, 4, 5, 6, 7, 8, 9] rfl) 0 1 rfl rfl rfl rfl rfl (Nat.le_of_ble_eq_true rfl) dX4_count_140 ⟨Nat.zero_le _, Nat.zero_le _⟩ ?_
        obtain rfl := Option.some.inj h
        exact hQ _ _ dX4_count_143
      have h := if_f h c4
      by_cases c7 : y1 = 2
      · have h := if_t h c7
        refine lv_tableIn (tgt := 144) hx hb dX4_count_87 (by rw [c7]; decide) (by rw [c7]; decide) (by rw [c7]; rfl) (by decide) ?_
        refine lv_aload_n hx hb dX4_count_144 rfl (lv_at hl 0 rfl) ?_
        refine va_get (D := D) (ci := 4) (v := .ref (a 26)) (C := RX4) (T := TX4) (N := 5) hx hb hts hiRX4 hown hK hP 0 rfl rfl 3 (by decide) hf27 (fun _ h9 => h9) rfl dX4_count_145 ?_
        refine va_get (D := D) (ci := 3) (v := .int ((R.2.2.2.2.1).2.1)) (C := RX3) (T := TX3) (N := 7) hx hb hts hiRX3 hown hK hP 26 rfl rfl 1 (by decide) hf194 (fun _ h9 => h9) rfl dX4_count_148 ?_
        obtain rfl := Option.some.inj h
        exact hQ _ _ dX4_count_151
      have h := if_f h c7
      by_cases c8 : y1 = 3
      · have h := if_t h c8
        refine lv_tableIn (tgt := 152) hx hb dX4_count_87 (by rw [c8]; decide) (by rw [c8]; decide) (by rw [c8]; rfl) (by decide) ?_
        refine lv_aload_n hx hb dX4_count_152 rfl (lv_at hl 0 rfl) ?_
        refine va_get (D := D) (ci := 4) (v := .ref (a 26)) (C := RX4) (T := TX4) (N := 5) hx hb hts hiRX4 hown hK hP 0 rfl rfl 3 (by decide) hf27 (fun _ h9 => h9) rfl dX4_count_153 ?_
        refine va_get (D := D) (ci := 3) (v := .int ((R.2.2.2.2.1).2.2.1)) (C := RX3) (T := TX3) (N := 7) hx hb hts hiRX3 hown hK hP 26 rfl rfl 2 (by decide) hf211 (fun _ h9 => h9) rfl dX4_count_156 ?_
        obtain rfl := Option.some.inj h
        exact hQ _ _ dX4_count_159
      have h := if_f h c8
      by_cases c9 : y1 = 4
      · have h := if_t h c9
        refine lv_tableIn (tgt := 160) hx hb dX4_count_87 (by rw [c9]; decide) (by rw [c9]; decide) (by rw [c9]; rfl) (by decide) ?_
        refine lv_aload_n hx hb dX4_count_160 rfl (lv_at hl 0 rfl) ?_
        refine va_get (D := D) (ci := 4) (v := .ref (a 26)) (C := RX4) (T := TX4) (N := 5) hx hb hts hiRX4 hown hK hP 0 rfl rfl 3 (by decide) hf27 (fun _ h9 => h9) rfl dX4_count_161 ?_
        refine va_get (D := D) (ci := 3) (v := .int ((R.2.2.2.2.1).2.2.2.1)) (C := RX3) (T := TX3) (N := 7) hx hb hts hiRX3 hown hK hP 26 rfl rfl 3 (by decide) hf214 (fun _ h9 => h9) rfl dX4_count_164 ?_
        obtain rfl := Option.some.inj h
        exact hQ _ _ dX4_count_167
      have h := if_f h c9
      by_cases c10 : y1 = 5
      · have h := if_t h c10
        refine lv_tableIn (tgt := 168) hx hb dX4_count_87 (by rw [c10]; decide) (by rw [c10]; decide) (by rw [c10]; rfl) (by decide) ?_
        refine lv_aload_n hx hb dX4_count_168 rfl (lv_at hl 0 rfl) ?_
        refine va_get (D := D) (ci := 4) (v := .ref (a 26)) (C := RX4) (T := TX4) (N := 5) hx hb hts hiRX4 hown hK hP 0 rfl rfl 3 (by decide) hf27 (fun _ h9 => h9) rfl dX4_count_169 ?_
        refine va_get (D := D) (ci := 3) (v := .int ((R.2.2.2.2.1).2.2.2.2.1)) (C := RX3) (T := TX3) (N := 7) hx hb hts hiRX3 hown hK hP 26 rfl rfl 4 (by decide) hf217 (fun _ h9 => h9) rfl dX4_count_172 ?_
        obtain rfl := Option.some.inj h
        exact hQ _ _ dX4_count_175
      have h := if_f h c10
      by_cases c11 : y1 = 6
      · have h := if_t h c11
        refine lv_tableIn (tgt := 176) hx hb dX4_count_87 (by rw [c11]; decide) (by rw [c11]; decide) (by rw [c11]; rfl) (by decide) ?_
        refine lv_aload_n hx hb dX4_count_176 rfl (lv_at hl 0 rfl) ?_
        refine va_get (D := D) (ci := 4) (v := .int R.2.2.2.1) (C := RX4) (T := TX4) (N := 5) hx hb hts hiRX4 hown hK hP 0 rfl rfl 2 (by decide) hf20 (fun _ h9 => h9) rfl dX4_count_177 ?_
        obtain rfl := Option.some.inj h
        exact hQ _ _ dX4_count_180
      have h := if_f h c11
      refine lv_tableOut (tgt := 181) hx hb dX4_count_87 (by have n0 := lv_neT c3 (k := 0) (a := 0) (by decide); have n1 := lv_neT c4 (k := 1) (a := 1) (by decide); have n2 := lv_neT c7 (k := 2) (a := 2) (by decide); have n3 := lv_neT c8 (k := 3) (a := 3) (by decide); have n4 := lv_neT c9 (k := 4) (a := 4) (by decide); have n5 := lv_neT c10 (k := 5) (a := 5) (by decide); have n6 := lv_neT c11 (k := 6) (a := 6) (by decide); omega) (by decide) ?_
      refine lv_bipush (v := (-2)) hx hb dX4_count_181 (by decide) ?_
      obtain rfl := Option.some.inj h
      exact hQ _ _ dX4_count_183
    · have h := if_f h c2
      refine lv_iload_n hx hb dX4_count_49 rfl (lv_at hl 1 rfl) ?_
      refine lv_bipush (v := 46) hx hb dX4_count_50 (by decide) ?_
      refine lv_icmp_ge (tgt := 86) hx hb dX4_count_52 (by decide) (fun c12 => ?_) (fun c12 => ?_)
      · have h := if_t h c12
        refine lv_iload_n hx hb dX4_count_86 rfl (lv_at hl 1 rfl) ?_
        by_cases c13 : y1 = 0
        · have h := if_t h c13
          refine lv_tableIn (tgt := 128) hx hb dX4_count_87 (by rw [c13]; decide) (by rw [c13]; decide) (by rw [c13]; rfl) (by decide) ?_
          refine lv_aload_n hx hb dX4_count_128 rfl (lv_at hl 0 rfl) ?_
          refine va_get (D := D) (ci := 4) (v := .ref (a 2)) (C := RX4) (T := TX4) (N := 5) hx hb hts hiRX4 hown hK hP 0 rfl rfl 0 (by decide) hf12 (fun _ h9 => h9) rfl dX4_count_129 ?_
          refine va_get (D := D) (ci := 1) (v := .int ((R.1).2.2.1)) (C := RX1) (T := TX1) (N := 8) hx hb hts hiRX1 hown hK hP 2 rfl rfl 2 (by decide) hf63 (fun _ h9 => h9) rfl dX4_count_132 ?_
          obtain rfl := Option.some.inj h
          exact hQ _ _ dX4_count_135
        have h := if_f h c13
        by_cases c14 : y1 = 1
        · have h := if_t h c14
          refine lv_tableIn (tgt := 136) hx hb dX4_count_87 (by rw [c14]; decide) (by rw [c14]; decide) (by rw [c14]; rfl) (by decide) ?_
          refine lv_aload_n hx hb dX4_count_136 rfl (lv_at hl 0 rfl) ?_
          refine va_get (D := D) (ci := 4) (v := .ref (a 2)) (C := RX4) (T := TX4) (N := 5) hx hb hts hiRX4 hown hK hP 0 rfl rfl 0 (by decide) hf12 (fun _ h9 => h9) rfl dX4_count_137 ?_
          obtain ⟨x15, h16, h⟩ := bd_s h
          refine cR_V (As := []) (rest := []) (n := 0) (v := .int x15) hx hb hml hown hts hK hN hl.1 (c_X1_plotCount l D k (fun j => a (2 + j)) R.1 x15 h16) gX4_count_X1_plotCount rfl (by decide +kernel) ⟨⟨rfl, rfl⟩, by decide, by decide⟩ (hP.sub (ws' := sceneW k (fun j => a (2 + j)) R.1) [2, 3, 4, 5, 6, 7, 8, 9] rfl) 0 1 rfl rfl rfl rfl rfl (Nat.le_of_ble_eq_true rfl) dX4_count_140 ⟨Nat.zero_le _, Nat.zero_le _⟩ ?_
          obtain rfl := Option.some.inj h
          exact hQ _ _ dX4_count_143
        have h := if_f h c14
        by_cases c17 : y1 = 2
        · have h := if_t h c17
          refine lv_tableIn (tgt := 144) hx hb dX4_count_87 (by rw [c17]; decide) (by rw [c17]; decide) (by rw [c17]; rfl) (by decide) ?_
          refine lv_aload_n hx hb dX4_count_144 rfl (lv_at hl 0 rfl) ?_
          refine va_get (D := D) (ci := 4) (v := .ref (a 26)) (C := RX4) (T := TX4) (N := 5) hx hb hts hiRX4 hown hK hP 0 rfl rfl 3 (by decide) hf27 (fun _ h9 => h9) rfl dX4_count_145 ?_
          refine va_get (D := D) (ci := 3) (v := .int ((R.2.2.2.2.1).2.1)) (C := RX3) (T := TX3) (N := 7) hx hb hts hiRX3 hown hK hP 26 rfl rfl 1 (by decide) hf194 (fun _ h9 => h9) rfl dX4_count_148 ?_
          obtain rfl := Option.some.inj h
          exact hQ _ _ dX4_count_151
        have h := if_f h c17
        by_cases c18 : y1 = 3
        · have h := if_t h c18
          refine lv_tableIn (tgt := 152) hx hb dX4_count_87 (by rw [c18]; decide) (by rw [c18]; decide) (by rw [c18]; rfl) (by decide) ?_
          refine lv_aload_n hx hb dX4_count_152 rfl (lv_at hl 0 rfl) ?_
          refine va_get (D := D) (ci := 4) (v := .ref (a 26)) (C := RX4) (T := TX4) (N := 5) hx hb hts hiRX4 hown hK hP 0 rfl rfl 3 (by decide) hf27 (fun _ h9 => h9) rfl dX4_count_153 ?_
          refine va_get (D := D) (ci := 3) (v := .int ((R.2.2.2.2.1).2.2.1)) (C := RX3) (T := TX3) (N := 7) hx hb hts hiRX3 hown hK hP 26 rfl rfl 2 (by decide) hf211 (fun _ h9 => h9) rfl dX4_count_156 ?_
          obtain rfl := Option.some.inj h
          exact hQ _ _ dX4_count_159
        have h := if_f h c18
        by_cases c19 : y1 = 4
        · have h := if_t h c19
          refine lv_tableIn (tgt := 160) hx hb dX4_count_87 (by rw [c19]; decide) (by rw [c19]; decide) (by rw [c19]; rfl) (by decide) ?_
          refine lv_aload_n hx hb dX4_count_160 rfl (lv_at hl 0 rfl) ?_
          refine va_get (D := D) (ci := 4) (v := .ref (a 26)) (C := RX4) (T := TX4) (N := 5) hx hb hts hiRX4 hown hK hP 0 rfl rfl 3 (by decide) hf27 (fun _ h9 => h9) rfl dX4_count_161 ?_
          refine va_get (D := D) (ci := 3) (v := .int ((R.2.2.2.2.1).2.2.2.1)) (C := RX3) (T := TX3) (N := 7) hx hb hts hiRX3 hown hK hP 26 rfl rfl 3 (by decide) hf214 (fun _ h9 => h9) rfl dX4_count_164 ?_
          obtain rfl := Option.some.inj h
          exact hQ _ _ dX4_count_167
        have h := if_f h c19
        by_cases c20 : y1 = 5
        · have h := if_t h c20
          refine lv_tableIn (tgt := 168) hx hb dX4_count_87 (by rw [c20]; decide) (by rw [c20]; decide) (by rw [c20]; rfl) (by decide) ?_
          refine lv_aload_n hx hb dX4_count_168 rfl (lv_at hl 0 rfl) ?_
          refine va_get (D := D) (ci := 4) (v := .ref (a 26)) (C := RX4) (T := TX4) (N := 5) hx hb hts hiRX4 hown hK hP 0 rfl rfl 3 (by decide) hf27 (fun _ h9 => h9) rfl dX4_count_169 ?_
          refine va_get (D := D) (ci := 3) (v := .int ((R.2.2.2.2.1).2.2.2.2.1)) (C := RX3) (T := TX3) (N := 7) hx hb hts hiRX3 hown hK hP 26 rfl rfl 4 (by decide) hf217 (fun _ h9 => h9) rfl dX4_count_172 ?_
          obtain rfl := Option.some.inj h
          exact hQ _ _ dX4_count_175
        have h := if_f h c20
        by_cases c21 : y1 = 6
        · have h := if_t h c21
          refine lv_tableIn (tgt := 176) hx hb dX4_count_87 (by rw [c21]; decide) (by rw [c21]; decide) (by rw [c21]; rfl) (by decide) ?_
          refine lv_aload_n hx hb dX4_count_176 rfl (lv_at hl 0 rfl) ?_
          refine va_get (D := D) (ci := 4) (v := .int R.2.2.2.1) (C := RX4) (T := TX4) (N := 5) hx hb hts hiRX4 hown hK hP 0 rfl rfl 2 (by decide) hf20 (fun _ h9 => h9) rfl dX4_count_177 ?_
          obtain rfl := Option.some.inj h
          exact hQ _ _ dX4_count_180
        have h := if_f h c21
        refine lv_tableOut (tgt := 181) hx hb dX4_count_87 (by have n0 := lv_neT c13 (k := 0) (a := 0) (by decide); have n1 := lv_neT c14 (k := 1) (a := 1) (by decide); have n2 := lv_neT c17 (k := 2) (a := 2) (by decide); have n3 := lv_neT c18 (k := 3) (a := 3) (by decide); have n4 := lv_neT c19 (k := 4) (a := 4) (by decide); have n5 := lv_neT c20 (k := 5) (a := 5) (by decide); have n6 := lv_neT c21 (k := 6) (a := 6) (by decide); omega) (by decide) ?_
        refine lv_bipush (v := (-2)) hx hb dX4_count_181 (by decide) ?_
        obtain rfl := Option.some.inj h
        exact hQ _ _ dX4_count_183
      · have h := if_f h c12
        refine lv_iload_n hx hb dX4_count_55 rfl (lv_at hl 1 rfl) ?_
        refine lv_bipush (v := 30) hx hb dX4_count_56 (by decide) ?_
        refine lv_isub hx hb dX4_count_58 ?_
        refine lv_istore_n (lv' := [(2, .int (y1 - 30)), (0, .ref (a 0)), (1, .int y1)]) hx hb dX4_count_59 rfl hl (by decide) rfl (fun ls hl => ?_)
        refine lv_aload_n hx hb dX4_count_60 rfl (lv_at hl 1 rfl) ?_
        refine va_get (D := D) (ci := 4) (v := .ref (a 2)) (C := RX4) (T := TX4) (N := 5) hx hb hts hiRX4 hown hK hP 0 rfl rfl 0 (by decide) hf12 (fun _ h9 => h9) rfl dX4_count_61 ?_
        refine lv_iload_n hx hb dX4_count_64 rfl (lv_at hl 0 rfl) ?_
        obtain ⟨x22, h23, h⟩ := bd_s h
        refine cR_V (As := [.int (y1 - 30)]) (rest := []) (n := 1) (v := .int (b2i x22)) hx hb hml hown hts hK hN hl.1 (c_X1_rowHasPlots l D k (fun j => a (2 + j)) R.1 (y1 - 30) x22 h23) gX4_count_X1_rowHasPlots rfl (by decide +kernel) ⟨⟨rfl, rfl⟩, by decide, by decide⟩ (hP.sub (ws' := sceneW k (fun j => a (2 + j)) R.1) [2, 3, 4, 5, 6, 7, 8, 9] rfl) 0 1 rfl rfl rfl rfl rfl (Nat.le_of_ble_eq_true rfl) dX4_count_65 ⟨Nat.zero_le _, Nat.zero_le _⟩ ?_
        refine lv_if_eq (tgt := 83) hx hb dX4_count_68 (by decide) (fun c24 => ?_) (fun c24 => ?_)
        · have h := if_t h c24
          refine lv_bipush (v := (-6)) hx hb dX4_count_83 (by decide) ?_
          obtain rfl := Option.some.inj h
          exact hQ _ _ dX4_count_85
        · have h := if_f h c24
          refine lv_aload_n hx hb dX4_count_71 rfl (lv_at hl 1 rfl) ?_
          refine va_get (D := D) (ci := 4) (v := .ref (a 2)) (C := RX4) (T := TX4) (N := 5) hx hb hts hiRX4 hown hK hP 0 rfl rfl 0 (by decide) hf12 (fun _ h9 => h9) rfl dX4_count_72 ?_
          refine va_get (D := D) (ci := 1) (v := .ref (a 4)) (C := RX1) (T := TX1) (N := 8) hx hb hts hiRX1 hown hK hP 2 rfl rfl 1 (by decide) hf46 (fun _ h9 => h9) rfl dX4_count_75 ?_
          refine lv_iload_n hx hb dX4_count_78 rfl (lv_at hl 0 rfl) ?_
          obtain ⟨c25, h⟩ := gd_s h
          refine va_iald (D := D) hx hb hK hP 4 0 rfl rfl (ix_in c25) dX4_count_79 ?_
          refine lv_goto (tgt := 85) hx hb dX4_count_80 (by decide) ?_
          obtain rfl := Option.some.inj h
          exact hQ _ _ dX4_count_85
  · have h := if_f h c1
    refine lv_iload_n hx hb dX4_count_6 rfl (lv_at hl 1 rfl) ?_
    refine lv_bipush (v := 26) hx hb dX4_count_7 (by decide) ?_
    refine lv_icmp_ge (tgt := 43) hx hb dX4_count_9 (by decide) (fun c26 => ?_) (fun c26 => ?_)
    · have h := if_t h c26
      refine lv_iload_n hx hb dX4_count_43 rfl (lv_at hl 1 rfl) ?_
      refine lv_bipush (v := 30) hx hb dX4_count_44 (by decide) ?_
      refine lv_icmp_lt (tgt := 86) hx hb dX4_count_46 (by decide) (fun c27 => ?_) (fun c27 => ?_)
      · have h := if_t h c27
        refine lv_iload_n hx hb dX4_count_86 rfl (lv_at hl 1 rfl) ?_
        by_cases c28 : y1 = 0
        · have h := if_t h c28
          refine lv_tableIn (tgt := 128) hx hb dX4_count_87 (by rw [c28]; decide) (by rw [c28]; decide) (by rw [c28]; rfl) (by decide) ?_
          refine lv_aload_n hx hb dX4_count_128 rfl (lv_at hl 0 rfl) ?_
          refine va_get (D := D) (ci := 4) (v := .ref (a 2)) (C := RX4) (T := TX4) (N := 5) hx hb hts hiRX4 hown hK hP 0 rfl rfl 0 (by decide) hf12 (fun _ h9 => h9) rfl dX4_count_129 ?_
          refine va_get (D := D) (ci := 1) (v := .int ((R.1).2.2.1)) (C := RX1) (T := TX1) (N := 8) hx hb hts hiRX1 hown hK hP 2 rfl rfl 2 (by decide) hf63 (fun _ h9 => h9) rfl dX4_count_132 ?_
          obtain rfl := Option.some.inj h
          exact hQ _ _ dX4_count_135
        have h := if_f h c28
        by_cases c29 : y1 = 1
        · have h := if_t h c29
          refine lv_tableIn (tgt := 136) hx hb dX4_count_87 (by rw [c29]; decide) (by rw [c29]; decide) (by rw [c29]; rfl) (by decide) ?_
          refine lv_aload_n hx hb dX4_count_136 rfl (lv_at hl 0 rfl) ?_
          refine va_get (D := D) (ci := 4) (v := .ref (a 2)) (C := RX4) (T := TX4) (N := 5) hx hb hts hiRX4 hown hK hP 0 rfl rfl 0 (by decide) hf12 (fun _ h9 => h9) rfl dX4_count_137 ?_
          obtain ⟨x30, h31, h⟩ := bd_s h
          refine cR_V (As := []) (rest := []) (n := 0) (v := .int x30) hx hb hml hown hts hK hN hl.1 (c_X1_plotCount l D k (fun j => a (2 + j)) R.1 x30 h31) gX4_count_X1_plotCount rfl (by decide +kernel) ⟨⟨rfl, rfl⟩, by decide, by decide⟩ (hP.sub (ws' := sceneW k (fun j => a (2 + j)) R.1) [2, 3, 4, 5, 6, 7, 8, 9] rfl) 0 1 rfl rfl rfl rfl rfl (Nat.le_of_ble_eq_true rfl) dX4_count_140 ⟨Nat.zero_le _, Nat.zero_le _⟩ ?_
          obtain rfl := Option.some.inj h
          exact hQ _ _ dX4_count_143
        have h := if_f h c29
        by_cases c32 : y1 = 2
        · have h := if_t h c32
          refine lv_tableIn (tgt := 144) hx hb dX4_count_87 (by rw [c32]; decide) (by rw [c32]; decide) (by rw [c32]; rfl) (by decide) ?_
          refine lv_aload_n hx hb dX4_count_144 rfl (lv_at hl 0 rfl) ?_
          refine va_get (D := D) (ci := 4) (v := .ref (a 26)) (C := RX4) (T := TX4) (N := 5) hx hb hts hiRX4 hown hK hP 0 rfl rfl 3 (by decide) hf27 (fun _ h9 => h9) rfl dX4_count_145 ?_
          refine va_get (D := D) (ci := 3) (v := .int ((R.2.2.2.2.1).2.1)) (C := RX3) (T := TX3) (N := 7) hx hb hts hiRX3 hown hK hP 26 rfl rfl 1 (by decide) hf194 (fun _ h9 => h9) rfl dX4_count_148 ?_
          obtain rfl := Option.some.inj h
          exact hQ _ _ dX4_count_151
        have h := if_f h c32
        by_cases c33 : y1 = 3
        · have h := if_t h c33
          refine lv_tableIn (tgt := 152) hx hb dX4_count_87 (by rw [c33]; decide) (by rw [c33]; decide) (by rw [c33]; rfl) (by decide) ?_
          refine lv_aload_n hx hb dX4_count_152 rfl (lv_at hl 0 rfl) ?_
          refine va_get (D := D) (ci := 4) (v := .ref (a 26)) (C := RX4) (T := TX4) (N := 5) hx hb hts hiRX4 hown hK hP 0 rfl rfl 3 (by decide) hf27 (fun _ h9 => h9) rfl dX4_count_153 ?_
          refine va_get (D := D) (ci := 3) (v := .int ((R.2.2.2.2.1).2.2.1)) (C := RX3) (T := TX3) (N := 7) hx hb hts hiRX3 hown hK hP 26 rfl rfl 2 (by decide) hf211 (fun _ h9 => h9) rfl dX4_count_156 ?_
          obtain rfl := Option.some.inj h
          exact hQ _ _ dX4_count_159
        have h := if_f h c33
        by_cases c34 : y1 = 4
        · have h := if_t h c34
          refine lv_tableIn (tgt := 160) hx hb dX4_count_87 (by rw [c34]; decide) (by rw [c34]; decide) (by rw [c34]; rfl) (by decide) ?_
          refine lv_aload_n hx hb dX4_count_160 rfl (lv_at hl 0 rfl) ?_
          refine va_get (D := D) (ci := 4) (v := .ref (a 26)) (C := RX4) (T := TX4) (N := 5) hx hb hts hiRX4 hown hK hP 0 rfl rfl 3 (by decide) hf27 (fun _ h9 => h9) rfl dX4_count_161 ?_
          refine va_get (D := D) (ci := 3) (v := .int ((R.2.2.2.2.1).2.2.2.1)) (C := RX3) (T := TX3) (N := 7) hx hb hts hiRX3 hown hK hP 26 rfl rfl 3 (by decide) hf214 (fun _ h9 => h9) rfl dX4_count_164 ?_
          obtain rfl := Option.some.inj h
          exact hQ _ _ dX4_count_167
        have h := if_f h c34
        by_cases c35 : y1 = 5
        · have h := if_t h c35
          refine lv_tableIn (tgt := 168) hx hb dX4_count_87 (by rw [c35]; decide) (by rw [c35]; decide) (by rw [c35]; rfl) (by decide) ?_
          refine lv_aload_n hx hb dX4_count_168 rfl (lv_at hl 0 rfl) ?_
          refine va_get (D := D) (ci := 4) (v := .ref (a 26)) (C := RX4) (T := TX4) (N := 5) hx hb hts hiRX4 hown hK hP 0 rfl rfl 3 (by decide) hf27 (fun _ h9 => h9) rfl dX4_count_169 ?_
          refine va_get (D := D) (ci := 3) (v := .int ((R.2.2.2.2.1).2.2.2.2.1)) (C := RX3) (T := TX3) (N := 7) hx hb hts hiRX3 hown hK hP 26 rfl rfl 4 (by decide) hf217 (fun _ h9 => h9) rfl dX4_count_172 ?_
          obtain rfl := Option.some.inj h
          exact hQ _ _ dX4_count_175
        have h := if_f h c35
        by_cases c36 : y1 = 6
        · have h := if_t h c36
          refine lv_tableIn (tgt := 176) hx hb dX4_count_87 (by rw [c36]; decide) (by rw [c36]; decide) (by rw [c36]; rfl) (by decide) ?_
          refine lv_aload_n hx hb dX4_count_176 rfl (lv_at hl 0 rfl) ?_
          refine va_get (D := D) (ci := 4) (v := .int R.2.2.2.1) (C := RX4) (T := TX4) (N := 5) hx hb hts hiRX4 hown hK hP 0 rfl rfl 2 (by decide) hf20 (fun _ h9 => h9) rfl dX4_count_177 ?_
          obtain rfl := Option.some.inj h
          exact hQ _ _ dX4_count_180
        have h := if_f h c36
        refine lv_tableOut (tgt := 181) hx hb dX4_count_87 (by have n0 := lv_neT c28 (k := 0) (a := 0) (by decide); have n1 := lv_neT c29 (k := 1) (a := 1) (by decide); have n2 := lv_neT c32 (k := 2) (a := 2) (by decide); have n3 := lv_neT c33 (k := 3) (a := 3) (by decide); have n4 := lv_neT c34 (k := 4) (a := 4) (by decide); have n5 := lv_neT c35 (k := 5) (a := 5) (by decide); have n6 := lv_neT c36 (k := 6) (a := 6) (by decide); omega) (by decide) ?_
        refine lv_bipush (v := (-2)) hx hb dX4_count_181 (by decide) ?_
        obtain rfl := Option.some.inj h
        exact hQ _ _ dX4_count_183
      · have h := if_f h c27
        refine lv_iload_n hx hb dX4_count_49 rfl (lv_at hl 1 rfl) ?_
        refine lv_bipush (v := 46) hx hb dX4_count_50 (by decide) ?_
        refine lv_icmp_ge (tgt := 86) hx hb dX4_count_52 (by decide) (fun c37 => ?_) (fun c37 => ?_)
        · have h := if_t h c37
          refine lv_iload_n hx hb dX4_count_86 rfl (lv_at hl 1 rfl) ?_
          by_cases c38 : y1 = 0
          · have h := if_t h c38
            refine lv_tableIn (tgt := 128) hx hb dX4_count_87 (by rw [c38]; decide) (by rw [c38]; decide) (by rw [c38]; rfl) (by decide) ?_
            refine lv_aload_n hx hb dX4_count_128 rfl (lv_at hl 0 rfl) ?_
            refine va_get (D := D) (ci := 4) (v := .ref (a 2)) (C := RX4) (T := TX4) (N := 5) hx hb hts hiRX4 hown hK hP 0 rfl rfl 0 (by decide) hf12 (fun _ h9 => h9) rfl dX4_count_129 ?_
            refine va_get (D := D) (ci := 1) (v := .int ((R.1).2.2.1)) (C := RX1) (T := TX1) (N := 8) hx hb hts hiRX1 hown hK hP 2 rfl rfl 2 (by decide) hf63 (fun _ h9 => h9) rfl dX4_count_132 ?_
            obtain rfl := Option.some.inj h
            exact hQ _ _ dX4_count_135
          have h := if_f h c38
          by_cases c39 : y1 = 1
          · have h := if_t h c39
            refine lv_tableIn (tgt := 136) hx hb dX4_count_87 (by rw [c39]; decide) (by rw [c39]; decide) (by rw [c39]; rfl) (by decide) ?_
            refine lv_aload_n hx hb dX4_count_136 rfl (lv_at hl 0 rfl) ?_
            refine va_get (D := D) (ci := 4) (v := .ref (a 2)) (C := RX4) (T := TX4) (N := 5) hx hb hts hiRX4 hown hK hP 0 rfl rfl 0 (by decide) hf12 (fun _ h9 => h9) rfl dX4_count_137 ?_
            obtain ⟨x40, h41, h⟩ := bd_s h
            refine cR_V (As := []) (rest := []) (n := 0) (v := .int x40) hx hb hml hown hts hK hN hl.1 (c_X1_plotCount l D k (fun j => a (2 + j)) R.1 x40 h41) gX4_count_X1_plotCount rfl (by decide +kernel) ⟨⟨rfl, rfl⟩, by decide, by decide⟩ (hP.sub (ws' := sceneW k (fun j => a (2 + j)) R.1) [2, 3, 4, 5, 6, 7, 8, 9] rfl) 0 1 rfl rfl rfl rfl rfl (Nat.le_of_ble_eq_true rfl) dX4_count_140 ⟨Nat.zero_le _, Nat.zero_le _⟩ ?_
            obtain rfl := Option.some.inj h
            exact hQ _ _ dX4_count_143
          have h := if_f h c39
          by_cases c42 : y1 = 2
          · have h := if_t h c42
            refine lv_tableIn (tgt := 144) hx hb dX4_count_87 (by rw [c42]; decide) (by rw [c42]; decide) (by rw [c42]; rfl) (by decide) ?_
            refine lv_aload_n hx hb dX4_count_144 rfl (lv_at hl 0 rfl) ?_
            refine va_get (D := D) (ci := 4) (v := .ref (a 26)) (C := RX4) (T := TX4) (N := 5) hx hb hts hiRX4 hown hK hP 0 rfl rfl 3 (by decide) hf27 (fun _ h9 => h9) rfl dX4_count_145 ?_
            refine va_get (D := D) (ci := 3) (v := .int ((R.2.2.2.2.1).2.1)) (C := RX3) (T := TX3) (N := 7) hx hb hts hiRX3 hown hK hP 26 rfl rfl 1 (by decide) hf194 (fun _ h9 => h9) rfl dX4_count_148 ?_
            obtain rfl := Option.some.inj h
            exact hQ _ _ dX4_count_151
          have h := if_f h c42
          by_cases c43 : y1 = 3
          · have h := if_t h c43
            refine lv_tableIn (tgt := 152) hx hb dX4_count_87 (by rw [c43]; decide) (by rw [c43]; decide) (by rw [c43]; rfl) (by decide) ?_
            refine lv_aload_n hx hb dX4_count_152 rfl (lv_at hl 0 rfl) ?_
            refine va_get (D := D) (ci := 4) (v := .ref (a 26)) (C := RX4) (T := TX4) (N := 5) hx hb hts hiRX4 hown hK hP 0 rfl rfl 3 (by decide) hf27 (fun _ h9 => h9) rfl dX4_count_153 ?_
            refine va_get (D := D) (ci := 3) (v := .int ((R.2.2.2.2.1).2.2.1)) (C := RX3) (T := TX3) (N := 7) hx hb hts hiRX3 hown hK hP 26 rfl rfl 2 (by decide) hf211 (fun _ h9 => h9) rfl dX4_count_156 ?_
            obtain rfl := Option.some.inj h
            exact hQ _ _ dX4_count_159
          have h := if_f h c43
          by_cases c44 : y1 = 4
          · have h := if_t h c44
            refine lv_tableIn (tgt := 160) hx hb dX4_count_87 (by rw [c44]; decide) (by rw [c44]; decide) (by rw [c44]; rfl) (by decide) ?_
            refine lv_aload_n hx hb dX4_count_160 rfl (lv_at hl 0 rfl) ?_
            refine va_get (D := D) (ci := 4) (v := .ref (a 26)) (C := RX4) (T := TX4) (N := 5) hx hb hts hiRX4 hown hK hP 0 rfl rfl 3 (by decide) hf27 (fun _ h9 => h9) rfl dX4_count_161 ?_
            refine va_get (D := D) (ci := 3) (v := .int ((R.2.2.2.2.1).2.2.2.1)) (C := RX3) (T := TX3) (N := 7) hx hb hts hiRX3 hown hK hP 26 rfl rfl 3 (by decide) hf214 (fun _ h9 => h9) rfl dX4_count_164 ?_
            obtain rfl := Option.some.inj h
            exact hQ _ _ dX4_count_167
          have h := if_f h c44
          by_cases c45 : y1 = 5
          · have h := if_t h c45
            refine lv_tableIn (tgt := 168) hx hb dX4_count_87 (by rw [c45]; decide) (by rw [c45]; decide) (by rw [c45]; rfl) (by decide) ?_
            refine lv_aload_n hx hb dX4_count_168 rfl (lv_at hl 0 rfl) ?_
            refine va_get (D := D) (ci := 4) (v := .ref (a 26)) (C := RX4) (T := TX4) (N := 5) hx hb hts hiRX4 hown hK hP 0 rfl rfl 3 (by decide) hf27 (fun _ h9 => h9) rfl dX4_count_169 ?_
            refine va_get (D := D) (ci := 3) (v := .int ((R.2.2.2.2.1).2.2.2.2.1)) (C := RX3) (T := TX3) (N := 7) hx hb hts hiRX3 hown hK hP 26 rfl rfl 4 (by decide) hf217 (fun _ h9 => h9) rfl dX4_count_172 ?_
            obtain rfl := Option.some.inj h
            exact hQ _ _ dX4_count_175
          have h := if_f h c45
          by_cases c46 : y1 = 6
          · have h := if_t h c46
            refine lv_tableIn (tgt := 176) hx hb dX4_count_87 (by rw [c46]; decide) (by rw [c46]; decide) (by rw [c46]; rfl) (by decide) ?_
            refine lv_aload_n hx hb dX4_count_176 rfl (lv_at hl 0 rfl) ?_
            refine va_get (D := D) (ci := 4) (v := .int R.2.2.2.1) (C := RX4) (T := TX4) (N := 5) hx hb hts hiRX4 hown hK hP 0 rfl rfl 2 (by decide) hf20 (fun _ h9 => h9) rfl dX4_count_177 ?_
            obtain rfl := Option.some.inj h
            exact hQ _ _ dX4_count_180
          have h := if_f h c46
          refine lv_tableOut (tgt := 181) hx hb dX4_count_87 (by have n0 := lv_neT c38 (k := 0) (a := 0) (by decide); have n1 := lv_neT c39 (k := 1) (a := 1) (by decide); have n2 := lv_neT c42 (k := 2) (a := 2) (by decide); have n3 := lv_neT c43 (k := 3) (a := 3) (by decide); have n4 := lv_neT c44 (k := 4) (a := 4) (by decide); have n5 := lv_neT c45 (k := 5) (a := 5) (by decide); have n6 := lv_neT c46 (k := 6) (a := 6) (by decide); omega) (by decide) ?_
          refine lv_bipush (v := (-2)) hx hb dX4_count_181 (by decide) ?_
          obtain rfl := Option.some.inj h
          exact hQ _ _ dX4_count_183
        · have h := if_f h c37
          refine lv_iload_n hx hb dX4_count_55 rfl (lv_at hl 1 rfl) ?_
          refine lv_bipush (v := 30) hx hb dX4_count_56 (by decide) ?_
          refine lv_isub hx hb dX4_count_58 ?_
          refine lv_istore_n (lv' := [(2, .int (y1 - 30)), (0, .ref (a 0)), (1, .int y1)]) hx hb dX4_count_59 rfl hl (by decide) rfl (fun ls hl => ?_)
          refine lv_aload_n hx hb dX4_count_60 rfl (lv_at hl 1 rfl) ?_
          refine va_get (D := D) (ci := 4) (v := .ref (a 2)) (C := RX4) (T := TX4) (N := 5) hx hb hts hiRX4 hown hK hP 0 rfl rfl 0 (by decide) hf12 (fun _ h9 => h9) rfl dX4_count_61 ?_
          refine lv_iload_n hx hb dX4_count_64 rfl (lv_at hl 0 rfl) ?_
          obtain ⟨x47, h48, h⟩ := bd_s h
          refine cR_V (As := [.int (y1 - 30)]) (rest := []) (n := 1) (v := .int (b2i x47)) hx hb hml hown hts hK hN hl.1 (c_X1_rowHasPlots l D k (fun j => a (2 + j)) R.1 (y1 - 30) x47 h48) gX4_count_X1_rowHasPlots rfl (by decide +kernel) ⟨⟨rfl, rfl⟩, by decide, by decide⟩ (hP.sub (ws' := sceneW k (fun j => a (2 + j)) R.1) [2, 3, 4, 5, 6, 7, 8, 9] rfl) 0 1 rfl rfl rfl rfl rfl (Nat.le_of_ble_eq_true rfl) dX4_count_65 ⟨Nat.zero_le _, Nat.zero_le _⟩ ?_
          refine lv_if_eq (tgt := 83) hx hb dX4_count_68 (by decide) (fun c49 => ?_) (fun c49 => ?_)
          · have h := if_t h c49
            refine lv_bipush (v := (-6)) hx hb dX4_count_83 (by decide) ?_
            obtain rfl := Option.some.inj h
            exact hQ _ _ dX4_count_85
          · have h := if_f h c49
            refine lv_aload_n hx hb dX4_count_71 rfl (lv_at hl 1 rfl) ?_
            refine va_get (D := D) (ci := 4) (v := .ref (a 2)) (C := RX4) (T := TX4) (N := 5) hx hb hts hiRX4 hown hK hP 0 rfl rfl 0 (by decide) hf12 (fun _ h9 => h9) rfl dX4_count_72 ?_
            refine va_get (D := D) (ci := 1) (v := .ref (a 4)) (C := RX1) (T := TX1) (N := 8) hx hb hts hiRX1 hown hK hP 2 rfl rfl 1 (by decide) hf46 (fun _ h9 => h9) rfl dX4_count_75 ?_
            refine lv_iload_n hx hb dX4_count_78 rfl (lv_at hl 0 rfl) ?_
            obtain ⟨c50, h⟩ := gd_s h
            refine va_iald (D := D) hx hb hK hP 4 0 rfl rfl (ix_in c50) dX4_count_79 ?_
            refine lv_goto (tgt := 85) hx hb dX4_count_80 (by decide) ?_
            obtain rfl := Option.some.inj h
            exact hQ _ _ dX4_count_85
    · have h := if_f h c26
      refine lv_iload_n hx hb dX4_count_12 rfl (lv_at hl 1 rfl) ?_
      refine lv_bipush (v := 10) hx hb dX4_count_13 (by decide) ?_
      refine lv_isub hx hb dX4_count_15 ?_
      refine lv_istore_n (lv' := [(2, .int (y1 - 10)), (0, .ref (a 0)), (1, .int y1)]) hx hb dX4_count_16 rfl hl (by decide) rfl (fun ls hl => ?_)
      refine lv_aload_n hx hb dX4_count_17 rfl (lv_at hl 1 rfl) ?_
      refine va_get (D := D) (ci := 4) (v := .ref (a 2)) (C := RX4) (T := TX4) (N := 5) hx hb hts hiRX4 hown hK hP 0 rfl rfl 0 (by decide) hf12 (fun _ h9 => h9) rfl dX4_count_18 ?_
      refine lv_iload_n hx hb dX4_count_21 rfl (lv_at hl 0 rfl) ?_
      obtain ⟨x51, h52, h⟩ := bd_s h
      refine cR_V (As := [.int (y1 - 10)]) (rest := []) (n := 1) (v := .int (b2i x51)) hx hb hml hown hts hK hN hl.1 (c_X1_rowHasPlots l D k (fun j => a (2 + j)) R.1 (y1 - 10) x51 h52) gX4_count_X1_rowHasPlots rfl (by decide +kernel) ⟨⟨rfl, rfl⟩, by decide, by decide⟩ (hP.sub (ws' := sceneW k (fun j => a (2 + j)) R.1) [2, 3, 4, 5, 6, 7, 8, 9] rfl) 0 1 rfl rfl rfl rfl rfl (Nat.le_of_ble_eq_true rfl) dX4_count_22 ⟨Nat.zero_le _, Nat.zero_le _⟩ ?_
      refine lv_if_eq (tgt := 40) hx hb dX4_count_25 (by decide) (fun c53 => ?_) (fun c53 => ?_)
      · have h := if_t h c53
        refine lv_bipush (v := (-6)) hx hb dX4_count_40 (by decide) ?_
        obtain rfl := Option.some.inj h
        exact hQ _ _ dX4_count_42
      · have h := if_f h c53
        refine lv_aload_n hx hb dX4_count_28 rfl (lv_at hl 1 rfl) ?_
        refine va_get (D := D) (ci := 4) (v := .ref (a 2)) (C := RX4) (T := TX4) (N := 5) hx hb hts hiRX4 hown hK hP 0 rfl rfl 0 (by decide) hf12 (fun _ h9 => h9) rfl dX4_count_29 ?_
        refine va_get (D := D) (ci := 1) (v := .ref (a 3)) (C := RX1) (T := TX1) (N := 8) hx hb hts hiRX1 hown hK hP 2 rfl rfl 0 (by decide) hf42 (fun _ h9 => h9) rfl dX4_count_32 ?_
        refine lv_iload_n hx hb dX4_count_35 rfl (lv_at hl 0 rfl) ?_
        obtain ⟨c54, h⟩ := gd_s h
        refine va_iald (D := D) hx hb hK hP 3 0 rfl rfl (ix_in c54) dX4_count_36 ?_
        refine lv_goto (tgt := 42) hx hb dX4_count_37 (by decide) ?_
        obtain rfl := Option.some.inj h
        exact hQ _ _ dX4_count_42
