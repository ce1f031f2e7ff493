/-! written by wip/whole/gen.py -/
abbrev rm_X4_owner : Room := { frames := 3, cells := 0, slots := 0, locals := 80 }
def f_X4_owner (R : RcV) (y1 : Int32) (y2 : Int32) (y3 : Int32) : Option (Int32 × RcV) := (f_X4_isDay y1).bind (fun x1 => if (b2i x1) = 0 then (some ((-2), R)) else ((f_X4_isPlot y2 y3).bind (fun x4 => if (b2i x4) = 0 then (some ((-2), R)) else ((f_X1_hasPlot R.1 y2 y3).bind (fun x7 => if (b2i x7) = 0 then (some ((-5), R)) else ((f_X1_workingOn R.1 y1).bind (fun x10 => if x10 = 0 then (some ((-6), R)) else ((f_X3_lookUp R.2.2.2.2.1 R.1 x10).bind (fun x13 => gd (decide (x13.1 < 7)) ((f_X0_ownerAt ((x13.2).2.2.2.2.2.2 x13.1) y2 y3).bind (fun x16 => some (x16, (R.1, R.2.1, R.2.2.1, R.2.2.2.1, x13.2, R.2.2.2.2.2)))))))))))))
set_option maxHeartbeats 4000000 in
set_option maxRecDepth 100000 in
theorem c_X4_owner (l : Launch) (D : va_G) (k : Nat → ClassId) (a : Nat → Nat) (R : RcV) (y1 : Int32) (y2 : Int32) (y3 : Int32) (r : Int32 × RcV) (h : f_X4_owner R y1 y2 y3 = some r) : Met l yX4_owner wsX4_owner rm_X4_owner (va_Pc [.ref (a 0), .int y1, .int y2, .int y3] (MB D k (rcW k a R))) (QM D (rcW k a R) (rcW k a r.2) (some (.int r.1))) 0 0 (AD (rcW k a R)) := by
  refine met_Mi (by decide) rfl (Nat.le_of_ble_eq_true rfl) ?_
  intro p e s m below meth c Q args ls hx hb hml hown hts hP hK hN hD hl hQ
  have hl : lv_has ls 5 [(0, .ref (a 0)), (1, .int y1), (2, .int y2), (3, .int y3)] := hl
  have hown : s.vm.findClass RX4 = some m.cls := hown
  unfold f_X4_owner at h
  have hiRX4 : ∀ w ∈ u_ws RX4 TX4 5, w ∈ wsX4_owner := by decide +kernel
  have hf12 := hts (.fieldLink RX4 12 "RainCells" "scene" "LRainCells$Scene;") (by decide +kernel)
  have hf27 := hts (.fieldLink RX4 27 "RainCells" "store" "LRainCells$Store;") (by decide +kernel)
  generalize AD (rcW k a R) = A0 at hD hQ
  have hS : va_S A0 s.heap s.heap [] := va_S.rf
  refine lv_iload_n hx hb dX4_owner_0 rfl (lv_at hl 1 rfl) ?_
  obtain ⟨x1, h2, h⟩ := bd_s h
  refine cR_S (As := [.int y1]) (rest := []) (n := 1) (v := .int (b2i x1)) hx hb hml hown hts hK hN hl.1 (c_X4_isDay l D k y1 x1 h2) gX4_owner_X4_isDay rfl (by decide +kernel) ⟨⟨rfl, rfl⟩, by decide, by decide⟩ va_P_nil rfl rfl (Nat.le_of_ble_eq_true rfl) dX4_owner_1 ⟨Nat.zero_le _, Nat.zero_le _⟩ ?_
  refine lv_if_eq (tgt := 15) hx hb dX4_owner_4 (by decide) (fun c3 => ?_) (fun c3 => ?_)
  · have h := if_t h c3
    refine lv_bipush (v := (-2)) hx hb dX4_owner_15 (by decide) ?_
    obtain rfl := Option.some.inj h
    exact hQ _ _ _ _ dX4_owner_17 hP hS
  · have h := if_f h c3
    refine lv_iload_n hx hb dX4_owner_7 rfl (lv_at hl 2 rfl) ?_
    refine lv_iload_n hx hb dX4_owner_8 rfl (lv_at hl 3 rfl) ?_
    obtain ⟨x4, h5, h⟩ := bd_s h
    refine cR_S (As := [.int y2, .int y3]) (rest := []) (n := 2) (v := .int (b2i x4)) hx hb hml hown hts hK hN hl.1 (c_X4_isPlot l D k y2 y3 x4 h5) gX4_owner_X4_isPlot rfl (by decide +kernel) ⟨⟨rfl, rfl⟩, by decide, by decide⟩ va_P_nil rfl rfl (Nat.le_of_ble_eq_true rfl) dX4_owner_9 ⟨Nat.zero_le _, Nat.zero_le _⟩ ?_
    refine lv_if_ne (tgt := 18) hx hb dX4_owner_12 (by decide) (fun c6 => ?_) (fun c6 => ?_)
    · have h := if_f h c6
      refine lv_aload_n hx hb dX4_owner_18 rfl (lv_at hl 0 rfl) ?_
      refine va_get (D := D) (ci := 4) (v := .ref (a 2)) (C := RX4) (T := TX4) (N := 5) hx hb hts hiRX4 hown hK hP 0 rfl rfl 0 (by decide) hf12 (fun _ h9 => h9) rfl dX4_owner_19 ?_
      refine lv_iload_n hx hb dX4_owner_22 rfl (lv_at hl 2 rfl) ?_
      refine lv_iload_n hx hb dX4_owner_23 rfl (lv_at hl 3 rfl) ?_
      obtain ⟨x7, h8, h⟩ := bd_s h
      refine cR_V (As := [.int y2, .int y3]) (rest := []) (n := 2) (v := .int (b2i x7)) hx hb hml hown hts hK hN hl.1 (c_X1_hasPlot l D k (fun j => a (2 + j)) R.1 y2 y3 x7 h8) gX4_owner_X1_hasPlot rfl (by decide +kernel) ⟨⟨rfl, rfl⟩, by decide, by decide⟩ (hP.sub (ws' := sceneW k (fun j => a (2 + j)) R.1) [2, 3, 4, 5, 6, 7, 8, 9] rfl) 0 1 rfl rfl rfl rfl rfl (Nat.le_of_ble_eq_true rfl) dX4_owner_24 ⟨Nat.zero_le _, Nat.zero_le _⟩ ?_
      refine lv_if_ne (tgt := 33) hx hb dX4_owner_27 (by decide) (fun c9 => ?_) (fun c9 => ?_)
      · have h := if_f h c9
        refine lv_aload_n hx hb dX4_owner_33 rfl (lv_at hl 0 rfl) ?_
        refine va_get (D := D) (ci := 4) (v := .ref (a 2)) (C := RX4) (T := TX4) (N := 5) hx hb hts hiRX4 hown hK hP 0 rfl rfl 0 (by decide) hf12 (fun _ h9 => h9) rfl dX4_owner_34 ?_
        refine lv_iload_n hx hb dX4_owner_37 rfl (lv_at hl 1 rfl) ?_
        obtain ⟨x10, h11, h⟩ := bd_s h
        refine cR_V (As := [.int y1]) (rest := []) (n := 1) (v := .int x10) hx hb hml hown hts hK hN hl.1 (c_X1_workingOn l D k (fun j => a (2 + j)) R.1 y1 x10 h11) gX4_owner_X1_workingOn rfl (by decide +kernel) ⟨⟨rfl, rfl⟩, by decide, by decide⟩ (hP.sub (ws' := sceneW k (fun j => a (2 + j)) R.1) [2, 3, 4, 5, 6, 7, 8, 9] rfl) 0 1 rfl rfl rfl rfl rfl (Nat.le_of_ble_eq_true rfl) dX4_owner_38 ⟨Nat.zero_le _, Nat.zero_le _⟩ ?_
        refine lv_istore (lv' := [(4, .int x10), (0, .ref (a 0)), (1, .int y1), (2, .int y2), (3, .int y3)]) hx hb dX4_owner_41 hl (by decide) rfl (fun ls hl => ?_)
        refine lv_iload hx hb dX4_owner_43 (lv_at hl 0 rfl) ?_
        refine lv_if_ne (tgt := 51) hx hb dX4_owner_45 (by decide) (fun c12 => ?_) (fun c12 => ?_)
        · have h := if_f h c12
          refine lv_aload_n hx hb dX4_owner_51 rfl (lv_at hl 1 rfl) ?_
          refine va_get (D := D) (ci := 4) (v := .ref (a 26)) (C := RX4) (T := TX4) (N := 5) hx hb hts hiRX4 hown hK hP 0 rfl rfl 3 (by decide) hf27 (fun _ h9 => h9) rfl dX4_owner_52 ?_
          refine lv_aload_n hx hb dX4_owner_55 rfl (lv_at hl 1 rfl) ?_
          refine va_get (D := D) (ci := 4) (v := .ref (a 2)) (C := RX4) (T := TX4) (N := 5) hx hb hts hiRX4 hown hK hP 0 rfl rfl 0 (by decide) hf12 (fun _ h9 => h9) rfl dX4_owner_56 ?_
          refine lv_iload hx hb dX4_owner_59 (lv_at hl 0 rfl) ?_
          obtain ⟨x13, h14, h⟩ := bd_s h
          refine cM_V (As := [.ref (a 2), .int x10]) (rest := []) (n := 2) (ov := (some (.ref (a (26 + (3 + 4 * x13.1)))))) (wc := storeW k (fun j => a (26 + j)) R.2.2.2.2.1 ++ (sceneW k (fun j => a (2 + j)) R.1)) (wc' := storeW k (fun j => a (26 + j)) x13.2 ++ (sceneW k (fun j => a (2 + j)) R.1)) (w1 := rcW k a (R.1, R.2.1, R.2.2.1, R.2.2.2.1, x13.2, R.2.2.2.2.2)) hx hb hml hown hts hK hN hl.1 hP hD hS rcs_st_sc (c_X3_lookUp l D k (fun j => a (26 + j)) (fun j => a (2 + j)) R.2.2.2.2.1 R.1 x10 x13 h14) gX4_owner_X3_lookUp rfl (by decide +kernel) ⟨⟨rfl, rfl⟩, by decide, by decide⟩ 0 3 rfl rfl rfl rfl rfl (Nat.le_of_ble_eq_true rfl) dX4_owner_61 ⟨Nat.zero_le _, Nat.zero_le _⟩ (fun H locs hP hD hS => ?_)
          show W p l e rm_X4_owner s m args below meth c H locs 0 0 Q (F0 m 64 ls [.ref (a (26 + (3 + 4 * x13.1)))])
          refine lv_iload_n hx hb dX4_owner_64 rfl (lv_at hl 3 rfl) ?_
          refine lv_iload_n hx hb dX4_owner_65 rfl (lv_at hl 4 rfl) ?_
          obtain ⟨c15, h⟩ := gd_s h
          obtain ⟨x16, h17, h⟩ := bd_s h
          refine cR_V (As := [.int y2, .int y3]) (rest := []) (n := 2) (v := .int x16) hx hb hml hown hts hK hN hl.1 (c_X0_ownerAt l D k (fun j => a (26 + (3 + 4 * x13.1 + j))) ((x13.2).2.2.2.2.2.2 x13.1) y2 y3 x16 h17) gX4_owner_X0_ownerAt rfl (by decide +kernel) ⟨⟨rfl, rfl⟩, by decide, by decide⟩ (rc_cell (of_decide_eq_true c15) (hP)) 0 0 rfl rfl rfl rfl rfl (Nat.le_of_ble_eq_true rfl) dX4_owner_66 ⟨Nat.zero_le _, Nat.zero_le _⟩ ?_
          obtain rfl := Option.some.inj h
          exact hQ _ _ _ _ dX4_owner_69 hP hS
        · have h := if_t h c12
          refine lv_bipush (v := (-6)) hx hb dX4_owner_48 (by decide) ?_
          obtain rfl := Option.some.inj h
          exact hQ _ _ _ _ dX4_owner_50 hP hS
      · have h := if_t h c9
        refine lv_bipush (v := (-5)) hx hb dX4_owner_30 (by decide) ?_
        obtain rfl := Option.some.inj h
        exact hQ _ _ _ _ dX4_owner_32 hP hS
    · have h := if_t h c6
      refine lv_bipush (v := (-2)) hx hb dX4_owner_15 (by decide) ?_
      obtain rfl := Option.some.inj h
      exact hQ _ _ _ _ dX4_owner_17 hP hS

abbrev rm_X4_cellsOn : Room := { frames := 3, cells := 0, slots := 0, locals := 80 }
def f_X4_cellsOn (R : RcV) (y1 : Int32) : Option (Nat × RcV) := (f_X1_workingOn R.1 y1).bind (fun x1 => if x1 = 0 then (some (0, R)) else ((f_X3_lookUp R.2.2.2.2.1 R.1 x1).bind (fun x4 => some (x4.1, (R.1, R.2.1, R.2.2.1, R.2.2.2.1, x4.2, R.2.2.2.2.2)))))
set_option maxHeartbeats 4000000 in
set_option maxRecDepth 100000 in
theorem c_X4_cellsOn (l : Launch) (D : va_G) (k : Nat → ClassId) (a : Nat → Nat) (R : RcV) (y1 : Int32) (r : Nat × RcV) (h : f_X4_cellsOn R y1 = some r) : Met l yX4_cellsOn wsX4_cellsOn rm_X4_cellsOn (va_Pc [.ref (a 0), .int y1] (MB D k (rcW k a R))) (QM D (rcW k a R) (rcW k a r.2) (some (.ref (a (26 + (3 + 4 * r.1)))))) 0 0 (AD (rcW k a R)) := by
  refine met_Mr (by decide) rfl (Nat.le_of_ble_eq_true rfl) ?_
  intro p e s m below meth c Q args ls hx hb hml hown hts hP hK hN hD hl hQ
  have hl : lv_has ls 3 [(0, .ref (a 0)), (1, .int y1)] := hl
  have hown : s.vm.findClass RX4 = some m.cls := hown
  unfold f_X4_cellsOn at h
  have hiRX4 : ∀ w ∈ u_ws RX4 TX4 5, w ∈ wsX4_cellsOn := by decide +kernel
  have hiRX3 : ∀ w ∈ u_ws RX3 TX3 7, w ∈ wsX4_cellsOn := by decide +kernel
  have hf12 := hts (.fieldLink RX4 12 "RainCells" "scene" "LRainCells$Scene;") (by decide +kernel)
  have hf27 := hts (.fieldLink RX4 27 "RainCells" "store" "LRainCells$Store;") (by decide +kernel)
  have hf223 := hts (.fieldLink RX4 223 "RainCells$Store" "empty" "LRainCells$Cells;") (by decide +kernel)
  generalize AD (rcW k a R) = A0 at hD hQ
  have hS : va_S A0 s.heap s.heap [] := va_S.rf
  refine lv_aload_n hx hb dX4_cellsOn_0 rfl (lv_at hl 0 rfl) ?_
  refine va_get (D := D) (ci := 4) (v := .ref (a 2)) (C := RX4) (T := TX4) (N := 5) hx hb hts hiRX4 hown hK hP 0 rfl rfl 0 (by decide) hf12 (fun _ h9 => h9) rfl dX4_cellsOn_1 ?_
  refine lv_iload_n hx hb dX4_cellsOn_4 rfl (lv_at hl 1 rfl) ?_
  obtain ⟨x1, h2, h⟩ := bd_s h
  refine cR_V (As := [.int y1]) (rest := []) (n := 1) (v := .int x1) hx hb hml hown hts hK hN hl.1 (c_X1_workingOn l D k (fun j => a (2 + j)) R.1 y1 x1 h2) gX4_cellsOn_X1_workingOn rfl (by decide +kernel) ⟨⟨rfl, rfl⟩, by decide, by decide⟩ (hP.sub (ws' := sceneW k (fun j => a (2 + j)) R.1) [2, 3, 4, 5, 6, 7, 8, 9] rfl) 0 1 rfl rfl rfl rfl rfl (Nat.le_of_ble_eq_true rfl) dX4_cellsOn_5 ⟨Nat.zero_le _, Nat.zero_le _⟩ ?_
  refine lv_istore_n (lv' := [(2, .int x1), (0, .ref (a 0)), (1, .int y1)]) hx hb dX4_cellsOn_8 rfl hl (by decide) rfl (fun ls hl => ?_)
  refine lv_iload_n hx hb dX4_cellsOn_9 rfl (lv_at hl 0 rfl) ?_
  refine lv_if_ne (tgt := 23) hx hb dX4_cellsOn_10 (by decide) (fun c3 => ?_) (fun c3 => ?_)
  · have h := if_f h c3
    refine lv_aload_n hx hb dX4_cellsOn_23 rfl (lv_at hl 1 rfl) ?_
    refine va_get (D := D) (ci := 4) (v := .ref (a 26)) (C := RX4) (T := TX4) (N := 5) hx hb hts hiRX4 hown hK hP 0 rfl rfl 3 (by decide) hf27 (fun _ h9 => h9) rfl dX4_cellsOn_24 ?_
    refine lv_aload_n hx hb dX4_cellsOn_27 rfl (lv_at hl 1 rfl) ?_
    refine va_get (D := D) (ci := 4) (v := .ref (a 2)) (C := RX4) (T := TX4) (N := 5) hx hb hts hiRX4 hown hK hP 0 rfl rfl 0 (by decide) hf12 (fun _ h9 => h9) rfl dX4_cellsOn_28 ?_
    refine lv_iload_n hx hb dX4_cellsOn_31 rfl (lv_at hl 0 rfl) ?_
    obtain ⟨x4, h5, h⟩ := bd_s h
    refine cM_V (As := [.ref (a 2), .int x1]) (rest := []) (n := 2) (ov := (some (.ref (a (26 + (3 + 4 * x4.1)))))) (wc := storeW k (fun j => a (26 + j)) R.2.2.2.2.1 ++ (sceneW k (fun j => a (2 + j)) R.1)) (wc' := storeW k (fun j => a (26 + j)) x4.2 ++ (sceneW k (fun j => a (2 + j)) R.1)) (w1 := rcW k a (R.1, R.2.1, R.2.2.1, R.2.2.2.1, x4.2, R.2.2.2.2.2)) hx hb hml hown hts hK hN hl.1 hP hD hS rcs_st_sc (c_X3_lookUp l D k (fun j => a (26 + j)) (fun j => a (2 + j)) R.2.2.2.2.1 R.1 x1 x4 h5) gX4_cellsOn_X3_lookUp rfl (by decide +kernel) ⟨⟨rfl, rfl⟩, by decide, by decide⟩ 0 3 rfl rfl rfl rfl rfl (Nat.le_of_ble_eq_true rfl) dX4_cellsOn_32 ⟨Nat.zero_le _, Nat.zero_le _⟩ (fun H locs hP hD hS => ?_)
    show W p l e rm_X4_cellsOn s m args below meth c H locs 0 0 Q (F0 m 35 ls [.ref (a (26 + (3 + 4 * x4.1)))])
    obtain rfl := Option.some.inj h
    exact hQ _ _ _ _ dX4_cellsOn_35 hP hS
  · have h := if_t h c3
    refine lv_aload_n hx hb dX4_cellsOn_13 rfl (lv_at hl 1 rfl) ?_
    refine va_get (D := D) (ci := 4) (v := .ref (a 26)) (C := RX4) (T := TX4) (N := 5) hx hb hts hiRX4 hown hK hP 0 rfl rfl 3 (by decide) hf27 (fun _ h9 => h9) rfl dX4_cellsOn_14 ?_
    refine va_get (D := D) (ci := 3) (v := .ref (a (26 + (3 + 4 * 0)))) (C := RX3) (T := TX3) (N := 7) hx hb hts hiRX3 hown hK hP 26 rfl rfl 5 (by decide) hf223 (fun _ h9 => h9) rfl dX4_cellsOn_17 ?_
    refine lv_goto (tgt := 35) hx hb dX4_cellsOn_20 (by decide) ?_
    obtain rfl := Option.some.inj h
    exact hQ _ _ _ _ dX4_cellsOn_35 hP hS

abbrev rm_X4_cell : Room := { frames := 4, cells := 0, slots := 0, locals := 102 }
def f_X4_cell (R : RcV) (y1 : Int32) (y2 : Int32) (y3 : Int32) : Option (Int32 × RcV) := (f_X1_knows R.1 y2).bind (fun x1 => if (b2i x1) = 0 then (some ((-1), R)) else ((f_X4_isDay y1).bind (fun x4 => if (b2i x4) = 0 then (some ((-2), R)) else (if y3 < 0 then (some ((-2), R)) else (if y3 ≤ 3 then ((f_X4_cellsOn R y1).bind (fun x9 => if y3 = 0 then (gd (decide (x9.1 < 7)) (gd (ix y2 8) (some (((((x9.2).2.2.2.2.1).2.2.2.2.2.2 x9.1).2.2.1 (y2 : Int32).toNatClampNeg), x9.2)))) else (if y3 = 1 then (gd (decide (x9.1 < 7)) (gd (ix y2 8) ((f_X1_plotCount ((x9.2).1)).bind (fun x17 => (f_X4_upper ((((x9.2).2.2.2.2.1).2.2.2.2.2.2 x9.1).2.2.1 (y2 : Int32).toNatClampNeg) x17).bind (fun x19 => some (x19, x9.2)))))) else (if y3 = 2 then (gd (decide (x9.1 < 7)) (gd (ix y2 8) ((f_X1_plotCount ((x9.2).1)).bind (fun x24 => (f_X4_lower ((((x9.2).2.2.2.2.1).2.2.2.2.2.2 x9.1).2.2.1 (y2 : Int32).toNatClampNeg) x24).bind (fun x26 => some (x26, x9.2)))))) else (gd (decide (x9.1 < 7)) (gd (ix y2 8) (some (((((x9.2).2.2.2.2.1).2.2.2.2.2.2 x9.1).2.2.2 (y2 : Int32).toNatClampNeg), x9.2)))))))) else (some ((-2), R)))))))
set_option maxHeartbeats 4000000 in
set_option maxRecDepth 100000 in
theorem c_X4_cell (l : Launch) (D : va_G) (k : Nat → ClassId) (a : Nat → Nat) (R : RcV) (y1 : Int32) (y2 : Int32) (y3 : Int32) (r : Int32 × RcV) (h : f_X4_cell R y1 y2 y3 = some r) : Met l yX4_cell wsX4_cell rm_X4_cell (va_Pc [.ref (a 0), .int y1, .int y2, .int y3] (MB D k (rcW k a R))) (QM D (rcW k a R) (rcW k a r.2) (some (.int r.1))) 0 0 (AD (rcW k a R)) := by
  refine met_Mi (by decide) rfl (Nat.le_of_ble_eq_true rfl) ?_
  intro p e s m below meth c Q args ls hx hb hml hown hts hP hK hN hD hl hQ
  have hl : lv_has ls 5 [(0, .ref (a 0)), (1, .int y1), (2, .int y2), (3, .int y3)] := hl
  have hown : s.vm.findClass RX4 = some m.cls := hown
  unfold f_X4_cell at h
  have hiRX4 : ∀ w ∈ u_ws RX4 TX4 5, w ∈ wsX4_cell := by decide +kernel
  have hiRX0 : ∀ w ∈ u_ws RX0 TX0 4, w ∈ wsX4_cell := by decide +kernel
  have hf12 := hts (.fieldLink RX4 12 "RainCells" "scene" "LRainCells$Scene;") (by decide +kernel)
  have hf126 := hts (.fieldLink RX4 126 "RainCells$Cells" "plots" "[I") (by decide +kernel)
  have hf135 := hts (.fieldLink RX4 135 "RainCells$Cells" "fars" "[I") (by decide +kernel)
  generalize AD (rcW k a R) = A0 at hD hQ
  have hS : va_S A0 s.heap s.heap [] := va_S.rf
  refine lv_aload_n hx hb dX4_cell_0 rfl (lv_at hl 0 rfl) ?_
  refine va_get (D := D) (ci := 4) (v := .ref (a 2)) (C := RX4) (T := TX4) (N := 5) hx hb hts hiRX4 hown hK hP 0 rfl rfl 0 (by decide) hf12 (fun _ h9 => h9) rfl dX4_cell_1 ?_
  refine lv_iload_n hx hb dX4_cell_4 rfl (lv_at hl 2 rfl) ?_
  obtain ⟨x1, h2, h⟩ := bd_s h
  refine cR_V (As := [.int y2]) (rest := []) (n := 1) (v := .int (b2i x1)) hx hb hml hown hts hK hN hl.1 (c_X1_knows l D k (fun j => a (2 + j)) R.1 y2 x1 h2) gX4_cell_X1_knows rfl (by decide +kernel) ⟨⟨rfl, rfl⟩, by decide, by decide⟩ (hP.sub (ws' := sceneW k (fun j => a (2 + j)) R.1) [2, 3, 4, 5, 6, 7, 8, 9] rfl) 0 1 rfl rfl rfl rfl rfl (Nat.le_of_ble_eq_true rfl) dX4_cell_5 ⟨Nat.zero_le _, Nat.zero_le _⟩ ?_
  refine lv_if_ne (tgt := 13) hx hb dX4_cell_8 (by decide) (fun c3 => ?_) (fun c3 => ?_)
  · have h := if_f h c3
    refine lv_iload_n hx hb dX4_cell_13 rfl (lv_at hl 1 rfl) ?_
    obtain ⟨x4, h5, h⟩ := bd_s h
    refine cR_S (As := [.int y1]) (rest := []) (n := 1) (v := .int (b2i x4)) hx hb hml hown hts hK hN hl.1 (c_X4_isDay l D k y1 x4 h5) gX4_cell_X4_isDay rfl (by decide +kernel) ⟨⟨rfl, rfl⟩, by decide, by decide⟩ va_P_nil rfl rfl (Nat.le_of_ble_eq_true rfl) dX4_cell_14 ⟨Nat.zero_le _, Nat.zero_le _⟩ ?_
    refine lv_if_eq (tgt := 29) hx hb dX4_cell_17 (by decide) (fun c6 => ?_) (fun c6 => ?_)
    · have h := if_t h c6
      refine lv_bipush (v := (-2)) hx hb dX4_cell_29 (by decide) ?_
      obtain rfl := Option.some.inj h
      exact hQ _ _ _ _ dX4_cell_31 hP hS
    · have h := if_f h c6
      refine lv_iload_n hx hb dX4_cell_20 rfl (lv_at hl 3 rfl) ?_
      refine lv_if_lt (tgt := 29) hx hb dX4_cell_21 (by decide) (fun c7 => ?_) (fun c7 => ?_)
      · have h := if_t h c7
        refine lv_bipush (v := (-2)) hx hb dX4_cell_29 (by decide) ?_
        obtain rfl := Option.some.inj h
        exact hQ _ _ _ _ dX4_cell_31 hP hS
      · have h := if_f h c7
        refine lv_iload_n hx hb dX4_cell_24 rfl (lv_at hl 3 rfl) ?_
        refine lv_iconst (v := 3) hx hb dX4_cell_25 (by decide) ?_
        refine lv_icmp_le (tgt := 32) hx hb dX4_cell_26 (by decide) (fun c8 => ?_) (fun c8 => ?_)
        · have h := if_t h c8
          refine lv_aload_n hx hb dX4_cell_32 rfl (lv_at hl 0 rfl) ?_
          refine lv_iload_n hx hb dX4_cell_33 rfl (lv_at hl 1 rfl) ?_
          obtain ⟨x9, h10, h⟩ := bd_s h
          refine cM_V (As := [.int y1]) (rest := []) (n := 1) (ov := (some (.ref (a (26 + (3 + 4 * x9.1)))))) (wc := rcW k a R) (wc' := rcW k a x9.2) (w1 := rcW k a x9.2) hx hb hml hown hts hK hN hl.1 hP hD hS (Sp.self (rc_ad k a _) (rc_ad k a _)) (c_X4_cellsOn l D k a R y1 x9 h10) gX4_cell_X4_cellsOn rfl (by decide +kernel) ⟨⟨rfl, rfl⟩, by decide, by decide⟩ 0 4 rfl rfl rfl rfl rfl (Nat.le_of_ble_eq_true rfl) dX4_cell_34 ⟨Nat.zero_le _, Nat.zero_le _⟩ (fun H locs hP hD hS => ?_)
          show W p l e rm_X4_cell s m args below meth c H locs 0 0 Q (F0 m 37 ls [.ref (a (26 + (3 + 4 * x9.1)))])
          refine lv_astore (lv' := [(4, .ref (a (26 + (3 + 4 * x9.1)))), (0, .ref (a 0)), (1, .int y1), (2, .int y2), (3, .int y3)]) hx hb dX4_cell_37 hl (by decide) rfl (fun ls hl => ?_)
          refine lv_iload_n hx hb dX4_cell_39 rfl (lv_at hl 4 rfl) ?_
          by_cases c11 : y3 = 0
          · have h := if_t h c11
            refine lv_tableIn (tgt := 68) hx hb dX4_cell_40 (by rw [c11]; decide) (by rw [c11]; decide) (by rw [c11]; rfl) (by decide) ?_
            refine lv_aload hx hb dX4_cell_68 (lv_at hl 0 rfl) ?_
            obtain ⟨c12, h⟩ := gd_s h
            refine va_get (D := D) (ci := 0) (v := .ref (a (26 + (3 + 4 * x9.1 + 2)))) (C := RX0) (T := TX0) (N := 4) hx hb hts hiRX0 hown hK (rc_cell (of_decide_eq_true c12) (hP)) 0 rfl rfl 2 (by decide) hf126 (fun _ h9 => h9) rfl dX4_cell_70 ?_
            refine lv_iload_n hx hb dX4_cell_73 rfl (lv_at hl 3 rfl) ?_
            obtain ⟨c13, h⟩ := gd_s h
            refine va_iald (D := D) hx hb hK (rc_cell (of_decide_eq_true c12) (hP)) 2 0 rfl rfl (ix_in c13) dX4_cell_74 ?_
            obtain rfl := Option.some.inj h
            exact hQ _ _ _ _ dX4_cell_75 hP hS
          have h := if_f h c11
          by_cases c14 : y3 = 1
          · have h := if_t h c14
            refine lv_tableIn (tgt := 76) hx hb dX4_cell_40 (by rw [c14]; decide) (by rw [c14]; decide) (by rw [c14]; rfl) (by decide) ?_
            refine lv_aload hx hb dX4_cell_76 (lv_at hl 0 rfl) ?_
            obtain ⟨c15, h⟩ := gd_s h
            refine va_get (D := D) (ci := 0) (v := .ref (a (26 + (3 + 4 * x9.1 + 2)))) (C := RX0) (T := TX0) (N := 4) hx hb hts hiRX0 hown hK (rc_cell (of_decide_eq_true c15) (hP)) 0 rfl rfl 2 (by decide) hf126 (fun _ h9 => h9) rfl dX4_cell_78 ?_
            refine lv_iload_n hx hb dX4_cell_81 rfl (lv_at hl 3 rfl) ?_
            obtain ⟨c16, h⟩ := gd_s h
            refine va_iald (D := D) hx hb hK (rc_cell (of_decide_eq_true c15) (hP)) 2 0 rfl rfl (ix_in c16) dX4_cell_82 ?_
            refine lv_aload_n hx hb dX4_cell_83 rfl (lv_at hl 1 rfl) ?_
            refine va_get (D := D) (ci := 4) (v := .ref (a 2)) (C := RX4) (T := TX4) (N := 5) hx hb hts hiRX4 hown hK hP 0 rfl rfl 0 (by decide) hf12 (fun _ h9 => h9) rfl dX4_cell_84 ?_
            obtain ⟨x17, h18, h⟩ := bd_s h
            refine cR_V (As := []) (rest := [.int ((((x9.2).2.2.2.2.1).2.2.2.2.2.2 x9.1).2.2.1 (y2 : Int32).toNatClampNeg)]) (n := 0) (v := .int x17) hx hb hml hown hts hK hN hl.1 (c_X1_plotCount l D k (fun j => a (2 + j)) ((x9.2).1) x17 h18) gX4_cell_X1_plotCount rfl (by decide +kernel) ⟨⟨rfl, rfl⟩, by decide, by decide⟩ (hP.sub (ws' := sceneW k (fun j => a (2 + j)) ((x9.2).1)) [2, 3, 4, 5, 6, 7, 8, 9] rfl) 0 1 rfl rfl rfl rfl rfl (Nat.le_of_ble_eq_true rfl) dX4_cell_87 ⟨Nat.zero_le _, Nat.zero_le _⟩ ?_
            obtain ⟨x19, h20, h⟩ := bd_s h
            refine cR_S (As := [.int ((((x9.2).2.2.2.2.1).2.2.2.2.2.2 x9.1).2.2.1 (y2 : Int32).toNatClampNeg), .int x17]) (rest := []) (n := 2) (v := .int x19) hx hb hml hown hts hK hN hl.1 (c_X4_upper l D k ((((x9.2).2.2.2.2.1).2.2.2.2.2.2 x9.1).2.2.1 (y2 : Int32).toNatClampNeg) x17 x19 h20) gX4_cell_X4_upper rfl (by decide +kernel) ⟨⟨rfl, rfl⟩, by decide, by decide⟩ va_P_nil rfl rfl (Nat.le_of_ble_eq_true rfl) dX4_cell_90 ⟨Nat.zero_le _, Nat.zero_le _⟩ ?_
            obtain rfl := Option.some.inj h
            exact hQ _ _ _ _ dX4_cell_93 hP hS
          have h := if_f h c14
          by_cases c21 : y3 = 2
          · have h := if_t h c21
            refine lv_tableIn (tgt := 94) hx hb dX4_cell_40 (by rw [c21]; decide) (by rw [c21]; decide) (by rw [c21]; rfl) (by decide) ?_
            refine lv_aload hx hb dX4_cell_94 (lv_at hl 0 rfl) ?_
            obtain ⟨c22, h⟩ := gd_s h
            refine va_get (D := D) (ci := 0) (v := .ref (a (26 + (3 + 4 * x9.1 + 2)))) (C := RX0) (T := TX0) (N := 4) hx hb hts hiRX0 hown hK (rc_cell (of_decide_eq_true c22) (hP)) 0 rfl rfl 2 (by decide) hf126 (fun _ h9 => h9) rfl dX4_cell_96 ?_
            refine lv_iload_n hx hb dX4_cell_99 rfl (lv_at hl 3 rfl) ?_
            obtain ⟨c23, h⟩ := gd_s h
            refine va_iald (D := D) hx hb hK (rc_cell (of_decide_eq_true c22) (hP)) 2 0 rfl rfl (ix_in c23) dX4_cell_100 ?_
            refine lv_aload_n hx hb dX4_cell_101 rfl (lv_at hl 1 rfl) ?_
            refine va_get (D := D) (ci := 4) (v := .ref (a 2)) (C := RX4) (T := TX4) (N := 5) hx hb hts hiRX4 hown hK hP 0 rfl rfl 0 (by decide) hf12 (fun _ h9 => h9) rfl dX4_cell_102 ?_
            obtain ⟨x24, h25, h⟩ := bd_s h
            refine cR_V (As := []) (rest := [.int ((((x9.2).2.2.2.2.1).2.2.2.2.2.2 x9.1).2.2.1 (y2 : Int32).toNatClampNeg)]) (n := 0) (v := .int x24) hx hb hml hown hts hK hN hl.1 (c_X1_plotCount l D k (fun j => a (2 + j)) ((x9.2).1) x24 h25) gX4_cell_X1_plotCount rfl (by decide +kernel) ⟨⟨rfl, rfl⟩, by decide, by decide⟩ (hP.sub (ws' := sceneW k (fun j => a (2 + j)) ((x9.2).1)) [2, 3, 4, 5, 6, 7, 8, 9] rfl) 0 1 rfl rfl rfl rfl rfl (Nat.le_of_ble_eq_true rfl) dX4_cell_105 ⟨Nat.zero_le _, Nat.zero_le _⟩ ?_
            obtain ⟨x26, h27, h⟩ := bd_s h
            refine cR_S (As := [.int ((((x9.2).2.2.2.2.1).2.2.2.2.2.2 x9.1).2.2.1 (y2 : Int32).toNatClampNeg), .int x24]) (rest := []) (n := 2) (v := .int x26) hx hb hml hown hts hK hN hl.1 (c_X4_lower l D k ((((x9.2).2.2.2.2.1).2.2.2.2.2.2 x9.1).2.2.1 (y2 : Int32).toNatClampNeg) x24 x26 h27) gX4_cell_X4_lower rfl (by decide +kernel) ⟨⟨rfl, rfl⟩, by decide, by decide⟩ va_P_nil rfl rfl (Nat.le_of_ble_eq_true rfl) dX4_cell_108 ⟨Nat.zero_le _, Nat.zero_le _⟩ ?_
            obtain rfl := Option.some.inj h
            exact hQ _ _ _ _ dX4_cell_111 hP hS
          have h := if_f h c21
          refine lv_tableOut (tgt := 112) hx hb dX4_cell_40 (by have n0 := lv_neT c11 (k := 0) (a := 0) (by decide); have n1 := lv_neT c14 (k := 1) (a := 1) (by decide); have n2 := lv_neT c21 (k := 2) (a := 2) (by decide); omega) (by decide) ?_
          refine lv_aload hx hb dX4_cell_112 (lv_at hl 0 rfl) ?_
          obtain ⟨c28, h⟩ := gd_s h
          refine va_get (D := D) (ci := 0) (v := .ref (a (26 + (3 + 4 * x9.1 + 3)))) (C := RX0) (T := TX0) (N := 4) hx hb hts hiRX0 hown hK (rc_cell (of_decide_eq_true c28) (hP)) 0 rfl rfl 3 (by decide) hf135 (fun _ h9 => h9) rfl dX4_cell_114 ?_
          refine lv_iload_n hx hb dX4_cell_117 rfl (lv_at hl 3 rfl) ?_
          obtain ⟨c29, h⟩ := gd_s h
          refine va_iald (D := D) hx hb hK (rc_cell (of_decide_eq_true c28) (hP)) 3 0 rfl rfl (ix_in c29) dX4_cell_118 ?_
          obtain rfl := Option.some.inj h
          exact hQ _ _ _ _ dX4_cell_119 hP hS
        · have h := if_f h c8
          refine lv_bipush (v := (-2)) hx hb dX4_cell_29 (by decide) ?_
          obtain rfl := Option.some.inj h
          exact hQ _ _ _ _ dX4_cell_31 hP hS
  · have h := if_t h c3
    refine lv_iconst (v := (-1)) hx hb dX4_cell_11 (by decide) ?_
    obtain rfl := Option.some.inj h
    exact hQ _ _ _ _ dX4_cell_12 hP hS

abbrev rm_X4_border : Room := { frames := 4, cells := 0, slots := 0, locals := 102 }
def f_X4_border (R : RcV) (y1 : Int32) (y2 : Int32) (y3 : Int32) : Option (Int32 × RcV) := (f_X1_knows R.1 y2).bind (fun x1 => if (b2i x1) = 0 then (some ((-1), R)) else ((f_X1_knows R.1 y3).bind (fun x4 => if (b2i x4) = 0 then (some ((-1), R)) else ((f_X4_isDay y1).bind (fun x7 => if (b2i x7) = 0 then (some ((-2), R)) else ((f_X4_cellsOn R y1).bind (fun x10 => (if y2 = y3 then (some (-1)) else (some y3) : Option (Int32)).bind (fun x12 => gd (decide (x10.1 < 7)) ((f_X0_sidesTo (((x10.2).2.2.2.2.1).2.2.2.2.2.2 x10.1) y2 x12).bind (fun x16 => some (x16, x10.2)))))))))))
set_option maxHeartbeats 4000000 in
set_option maxRecDepth 100000 in
theorem c_X4_border (l : Launch) (D : va_G) (k : Nat → ClassId) (a : Nat → Nat) (R : RcV) (y1 : Int32) (y2 : Int32) (y3 : Int32) (r : Int32 × RcV) (h : f_X4_border R y1 y2 y3 = some r) : Met l yX4_border wsX4_border rm_X4_border (va_Pc [.ref (a 0), .int y1, .int y2, .int y3] (MB D k (rcW k a R))) (QM D (rcW k a R) (rcW k a r.2) (some (.int r.1))) 0 0 (AD (rcW k a R)) := by
  refine met_Mi (by decide) rfl (Nat.le_of_ble_eq_true rfl) ?_
  intro p e s m below meth c Q args ls hx hb hml hown hts hP hK hN hD hl hQ
  have hl : lv_has ls 4 [(0, .ref (a 0)), (1, .int y1), (2, .int y2), (3, .int y3)] := hl
  have hown : s.vm.findClass RX4 = some m.cls := hown
  unfold f_X4_border at h
  have hiRX4 : ∀ w ∈ u_ws RX4 TX4 5, w ∈ wsX4_border := by decide +kernel
  have hf12 := hts (.fieldLink RX4 12 "RainCells" "scene" "LRainCells$Scene;") (by decide +kernel)
  generalize AD (rcW k a R) = A0 at hD hQ
  have hS : va_S A0 s.heap s.heap [] := va_S.rf
  refine lv_aload_n hx hb dX4_border_0 rfl (lv_at hl 0 rfl) ?_
  refine va_get (D := D) (ci := 4) (v := .ref (a 2)) (C := RX4) (T := TX4) (N := 5) hx hb hts hiRX4 hown hK hP 0 rfl rfl 0 (by decide) hf12 (fun _ h9 => h9) rfl dX4_border_1 ?_
  refine lv_iload_n hx hb dX4_border_4 rfl (lv_at hl 2 rfl) ?_
  obtain ⟨x1, h2, h⟩ := bd_s h
  refine cR_V (As := [.int y2]) (rest := []) (n := 1) (v := .int (b2i x1)) hx hb hml hown hts hK hN hl.1 (c_X1_knows l D k (fun j => a (2 + j)) R.1 y2 x1 h2) gX4_border_X1_knows rfl (by decide +kernel) ⟨⟨rfl, rfl⟩, by decide, by decide⟩ (hP.sub (ws' := sceneW k (fun j => a (2 + j)) R.1) [2, 3, 4, 5, 6, 7, 8, 9] rfl) 0 1 rfl rfl rfl rfl rfl (Nat.le_of_ble_eq_true rfl) dX4_border_5 ⟨Nat.zero_le _, Nat.zero_le _⟩ ?_
  refine lv_if_eq (tgt := 22) hx hb dX4_border_8 (by decide) (fun c3 => ?_) (fun c3 => ?_)
  · have h := if_t h c3
    refine lv_iconst (v := (-1)) hx hb dX4_border_22 (by decide) ?_
    obtain rfl := Option.some.inj h
    exact hQ _ _ _ _ dX4_border_23 hP hS
  · have h := if_f h c3
    refine lv_aload_n hx hb dX4_border_11 rfl (lv_at hl 0 rfl) ?_
    refine va_get (D := D) (ci := 4) (v := .ref (a 2)) (C := RX4) (T := TX4) (N := 5) hx hb hts hiRX4 hown hK hP 0 rfl rfl 0 (by decide) hf12 (fun _ h9 => h9) rfl dX4_border_12 ?_
    refine lv_iload_n hx hb dX4_border_15 rfl (lv_at hl 3 rfl) ?_
    obtain ⟨x4, h5, h⟩ := bd_s h
    refine cR_V (As := [.int y3]) (rest := []) (n := 1) (v := .int (b2i x4)) hx hb hml hown hts hK hN hl.1 (c_X1_knows l D k (fun j => a (2 + j)) R.1 y3 x4 h5) gX4_border_X1_knows rfl (by decide +kernel) ⟨⟨rfl, rfl⟩, by decide, by decide⟩ (hP.sub (ws' := sceneW k (fun j => a (2 + j)) R.1) [2, 3, 4, 5, 6, 7, 8, 9] rfl) 0 1 rfl rfl rfl rfl rfl (Nat.le_of_ble_eq_true rfl) dX4_border_16 ⟨Nat.zero_le _, Nat.zero_le _⟩ ?_
    refine lv_if_ne (tgt := 24) hx hb dX4_border_19 (by decide) (fun c6 => ?_) (fun c6 => ?_)
    · have h := if_f h c6
      refine lv_iload_n hx hb dX4_border_24 rfl (lv_at hl 1 rfl) ?_
      obtain ⟨x7, h8, h⟩ := bd_s h
      refine cR_S (As := [.int y1]) (rest := []) (n := 1) (v := .int (b2i x7)) hx hb hml hown hts hK hN hl.1 (c_X4_isDay l D k y1 x7 h8) gX4_border_X4_isDay rfl (by decide +kernel) ⟨⟨rfl, rfl⟩, by decide, by decide⟩ va_P_nil rfl rfl (Nat.le_of_ble_eq_true rfl) dX4_border_25 ⟨Nat.zero_le _, Nat.zero_le _⟩ ?_
      refine lv_if_ne (tgt := 34) hx hb dX4_border_28 (by decide) (fun c9 => ?_) (fun c9 => ?_)
      · have h := if_f h c9
        refine lv_aload_n hx hb dX4_border_34 rfl (lv_at hl 0 rfl) ?_
        refine lv_iload_n hx hb dX4_border_35 rfl (lv_at hl 1 rfl) ?_
        obtain ⟨x10, h11, h⟩ := bd_s h
        refine cM_V (As := [.int y1]) (rest := []) (n := 1) (ov := (some (.ref (a (26 + (3 + 4 * x10.1)))))) (wc := rcW k a R) (wc' := rcW k a x10.2) (w1 := rcW k a x10.2) hx hb hml hown hts hK hN hl.1 hP hD hS (Sp.self (rc_ad k a _) (rc_ad k a _)) (c_X4_cellsOn l D k a R y1 x10 h11) gX4_border_X4_cellsOn rfl (by decide +kernel) ⟨⟨rfl, rfl⟩, by decide, by decide⟩ 0 4 rfl rfl rfl rfl rfl (Nat.le_of_ble_eq_true rfl) dX4_border_36 ⟨Nat.zero_le _, Nat.zero_le _⟩ (fun H locs hP hD hS => ?_)
        show W p l e rm_X4_border s m args below meth c H locs 0 0 Q (F0 m 39 ls [.ref (a (26 + (3 + 4 * x10.1)))])
        refine lv_iload_n hx hb dX4_border_39 rfl (lv_at hl 2 rfl) ?_
        refine lv_iload_n hx hb dX4_border_40 rfl (lv_at hl 2 rfl) ?_
        refine lv_iload_n hx hb dX4_border_41 rfl (lv_at hl 3 rfl) ?_
        obtain ⟨x12, h13, h⟩ := bd_s h
        have K14 : W p l e rm_X4_border s m args below meth c H locs 0 0 Q (F0 m 50 ls [.int x12, .int y2, .ref (a (26 + (3 + 4 * x10.1)))]) := by
          obtain ⟨c15, h⟩ := gd_s h
          obtain ⟨x16, h17, h⟩ := bd_s h
          refine cR_V (As := [.int y2, .int x12]) (rest := []) (n := 2) (v := .int x16) hx hb hml hown hts hK hN hl.1 (c_X0_sidesTo l D k (fun j => a (26 + (3 + 4 * x10.1 + j))) (((x10.2).2.2.2.2.1).2.2.2.2.2.2 x10.1) y2 x12 x16 h17) gX4_border_X0_sidesTo rfl (by decide +kernel) ⟨⟨rfl, rfl⟩, by decide, by decide⟩ (rc_cell (of_decide_eq_true c15) (hP)) 0 0 rfl rfl rfl rfl rfl (Nat.le_of_ble_eq_true rfl) dX4_border_50 ⟨Nat.zero_le _, Nat.zero_le _⟩ ?_
          obtain rfl := Option.some.inj h
          exact hQ _ _ _ _ dX4_border_53 hP hS
        refine lv_icmp_ne (tgt := 49) hx hb dX4_border_42 (by decide) (fun c18 => ?_) (fun c18 => ?_)
        · have h13 := if_f h13 c18
          refine lv_iload_n hx hb dX4_border_49 rfl (lv_at hl 3 rfl) ?_
          obtain rfl := Option.some.inj h13
          exact K14
        · have h13 := if_t h13 c18
          refine lv_iconst (v := (-1)) hx hb dX4_border_45 (by decide) ?_
          refine lv_goto (tgt := 50) hx hb dX4_border_46 (by decide) ?_
          obtain rfl := Option.some.inj h13
          exact K14
      · have h := if_t h c9
        refine lv_bipush (v := (-2)) hx hb dX4_border_31 (by decide) ?_
        obtain rfl := Option.some.inj h
        exact hQ _ _ _ _ dX4_border_33 hP hS
    · have h := if_t h c6
      refine lv_iconst (v := (-1)) hx hb dX4_border_22 (by decide) ?_
      obtain rfl := Option.some.inj h
      exact hQ _ _ _ _ dX4_border_23 hP hS

abbrev rm_X4_neighbours : Room := { frames := 4, cells := 0, slots := 0, locals := 102 }
def f_X4_neighbours (R : RcV) (y1 : Int32) (y2 : Int32) : Option (Int32 × RcV) := (f_X1_knows R.1 y2).bind (fun x1 => if (b2i x1) = 0 then (some ((-1), R)) else ((f_X4_isDay y1).bind (fun x4 => if (b2i x4) = 0 then (some ((-2), R)) else ((f_X4_cellsOn R y1).bind (fun x7 => gd (decide (x7.1 < 7)) ((f_X0_touching (((x7.2).2.2.2.2.1).2.2.2.2.2.2 x7.1) y2).bind (fun x10 => some (x10, x7.2))))))))
set_option maxHeartbeats 4000000 in
set_option maxRecDepth 100000 in
theorem c_X4_neighbours (l : Launch) (D : va_G) (k : Nat → ClassId) (a : Nat → Nat) (R : RcV) (y1 : Int32) (y2 : Int32) (r : Int32 × RcV) (h : f_X4_neighbours R y1 y2 = some r) : Met l yX4_neighbours wsX4_neighbours rm_X4_neighbours (va_Pc [.ref (a 0), .int y1, .int y2] (MB D k (rcW k a R))) (QM D (rcW k a R) (rcW k a r.2) (some (.int r.1))) 0 0 (AD (rcW k a R)) := by
  refine met_Mi (by decide) rfl (Nat.le_of_ble_eq_true rfl) ?_
  intro p e s m below meth c Q args ls hx hb hml hown hts hP hK hN hD hl hQ
  have hl : lv_has ls 3 [(0, .ref (a 0)), (1, .int y1), (2, .int y2)] := hl
  have hown : s.vm.findClass RX4 = some m.cls := hown
  unfold f_X4_neighbours at h
  have hiRX4 : ∀ w ∈ u_ws RX4 TX4 5, w ∈ wsX4_neighbours := by decide +kernel
  have hf12 := hts (.fieldLink RX4 12 "RainCells" "scene" "LRainCells$Scene;") (by decide +kernel)
  generalize AD (rcW k a R) = A0 at hD hQ
  have hS : va_S A0 s.heap s.heap [] := va_S.rf
  refine lv_aload_n hx hb dX4_neighbours_0 rfl (lv_at hl 0 rfl) ?_
  refine va_get (D := D) (ci := 4) (v := .ref (a 2)) (C := RX4) (T := TX4) (N := 5) hx hb hts hiRX4 hown hK hP 0 rfl rfl 0 (by decide) hf12 (fun _ h9 => h9) rfl dX4_neighbours_1 ?_
  refine lv_iload_n hx hb dX4_neighbours_4 rfl (lv_at hl 2 rfl) ?_
  obtain ⟨x1, h2, h⟩ := bd_s h
  refine cR_V (As := [.int y2]) (rest := []) (n := 1) (v := .int (b2i x1)) hx hb hml hown hts hK hN hl.1 (c_X1_knows l D k (fun j => a (2 + j)) R.1 y2 x1 h2) gX4_neighbours_X1_knows rfl (by decide +kernel) ⟨⟨rfl, rfl⟩, by decide, by decide⟩ (hP.sub (ws' := sceneW k (fun j => a (2 + j)) R.1) [2, 3, 4, 5, 6, 7, 8, 9] rfl) 0 1 rfl rfl rfl rfl rfl (Nat.le_of_ble_eq_true rfl) dX4_neighbours_5 ⟨Nat.zero_le _, Nat.zero_le _⟩ ?_
  refine lv_if_ne (tgt := 13) hx hb dX4_neighbours_8 (by decide) (fun c3 => ?_) (fun c3 => ?_)
  · have h := if_f h c3
    refine lv_iload_n hx hb dX4_neighbours_13 rfl (lv_at hl 1 rfl) ?_
    obtain ⟨x4, h5, h⟩ := bd_s h
    refine cR_S (As := [.int y1]) (rest := []) (n := 1) (v := .int (b2i x4)) hx hb hml hown hts hK hN hl.1 (c_X4_isDay l D k y1 x4 h5) gX4_neighbours_X4_isDay rfl (by decide +kernel) ⟨⟨rfl, rfl⟩, by decide, by decide⟩ va_P_nil rfl rfl (Nat.le_of_ble_eq_true rfl) dX4_neighbours_14 ⟨Nat.zero_le _, Nat.zero_le _⟩ ?_
    refine lv_if_ne (tgt := 23) hx hb dX4_neighbours_17 (by decide) (fun c6 => ?_) (fun c6 => ?_)
    · have h := if_f h c6
      refine lv_aload_n hx hb dX4_neighbours_23 rfl (lv_at hl 0 rfl) ?_
      refine lv_iload_n hx hb dX4_neighbours_24 rfl (lv_at hl 1 rfl) ?_
      obtain ⟨x7, h8, h⟩ := bd_s h
      refine cM_V (As := [.int y1]) (rest := []) (n := 1) (ov := (some (.ref (a (26 + (3 + 4 * x7.1)))))) (wc := rcW k a R) (wc' := rcW k a x7.2) (w1 := rcW k a x7.2) hx hb hml hown hts hK hN hl.1 hP hD hS (Sp.self (rc_ad k a _) (rc_ad k a _)) (c_X4_cellsOn l D k a R y1 x7 h8) gX4_neighbours_X4_cellsOn rfl (by decide +kernel) ⟨⟨rfl, rfl⟩, by decide, by decide⟩ 0 4 rfl rfl rfl rfl rfl (Nat.le_of_ble_eq_true rfl) dX4_neighbours_25 ⟨Nat.zero_le _, Nat.zero_le _⟩ (fun H locs hP hD hS => ?_)
      show W p l e rm_X4_neighbours s m args below meth c H locs 0 0 Q (F0 m 28 ls [.ref (a (26 + (3 + 4 * x7.1)))])
      refine lv_iload_n hx hb dX4_neighbours_28 rfl (lv_at hl 2 rfl) ?_
      obtain ⟨c9, h⟩ := gd_s h
      obtain ⟨x10, h11, h⟩ := bd_s h
      refine cR_V (As := [.int y2]) (rest := []) (n := 1) (v := .int x10) hx hb hml hown hts hK hN hl.1 (c_X0_touching l D k (fun j => a (26 + (3 + 4 * x7.1 + j))) (((x7.2).2.2.2.2.1).2.2.2.2.2.2 x7.1) y2 x10 h11) gX4_neighbours_X0_touching rfl (by decide +kernel) ⟨⟨rfl, rfl⟩, by decide, by decide⟩ (rc_cell (of_decide_eq_true c9) (hP)) 0 0 rfl rfl rfl rfl rfl (Nat.le_of_ble_eq_true rfl) dX4_neighbours_29 ⟨Nat.zero_le _, Nat.zero_le _⟩ ?_
      obtain rfl := Option.some.inj h
      exact hQ _ _ _ _ dX4_neighbours_32 hP hS
    · have h := if_t h c6
      refine lv_bipush (v := (-2)) hx hb dX4_neighbours_20 (by decide) ?_
      obtain rfl := Option.some.inj h
      exact hQ _ _ _ _ dX4_neighbours_22 hP hS
  · have h := if_t h c3
    refine lv_iconst (v := (-1)) hx hb dX4_neighbours_11 (by decide) ?_
    obtain rfl := Option.some.inj h
    exact hQ _ _ _ _ dX4_neighbours_12 hP hS

abbrev rm_X4_hasMean : Room := { frames := 2, cells := 0, slots := 0, locals := 46 }
def f_X4_hasMean (R : RcV) (y1 : Int32) : Option (Bool) := (f_X1_workingOn R.1 y1).bind (fun x1 => if x1 = 0 then (some false) else ((f_X1_plotCount R.1).bind (fun x4 => if x4 ≤ 0 then (some false) else (some true))))
set_option maxHeartbeats 4000000 in
set_option maxRecDepth 100000 in
theorem c_X4_hasMean (l : Launch) (D : va_G) (k : Nat → ClassId) (a : Nat → Nat) (R : RcV) (y1 : Int32) (r : Bool) (h : f_X4_hasMean R y1 = some r) : Met l yX4_hasMean wsX4_hasMean rm_X4_hasMean (va_Pc [.ref (a 0), .int y1] (RB D k (rcW k a R))) (QR (some (.int (b2i r)))) 0 0 (fun _ => False) := by
  refine met_Rz (by decide) rfl (Nat.le_of_ble_eq_true rfl) ?_
  intro p e s m below meth c Q args ls hx hb hml hown hts hP hK hN hl hQ
  have hl : lv_has ls 2 [(0, .ref (a 0)), (1, .int y1)] := hl
  have hown : s.vm.findClass RX4 = some m.cls := hown
  unfold f_X4_hasMean at h
  have hiRX4 : ∀ w ∈ u_ws RX4 TX4 5, w ∈ wsX4_hasMean := by decide +kernel
  have hf12 := hts (.fieldLink RX4 12 "RainCells" "scene" "LRainCells$Scene;") (by decide +kernel)
  refine lv_aload_n hx hb dX4_hasMean_0 rfl (lv_at hl 0 rfl) ?_
  refine va_get (D := D) (ci := 4) (v := .ref (a 2)) (C := RX4) (T := TX4) (N := 5) hx hb hts hiRX4 hown hK hP 0 rfl rfl 0 (by decide) hf12 (fun _ h9 => h9) rfl dX4_hasMean_1 ?_
  refine lv_iload_n hx hb dX4_hasMean_4 rfl (lv_at hl 1 rfl) ?_
  obtain ⟨x1, h2, h⟩ := bd_s h
  refine cR_V (As := [.int y1]) (rest := []) (n := 1) (v := .int x1) hx hb hml hown hts hK hN hl.1 (c_X1_workingOn l D k (fun j => a (2 + j)) R.1 y1 x1 h2) gX4_hasMean_X1_workingOn rfl (by decide +kernel) ⟨⟨rfl, rfl⟩, by decide, by decide⟩ (hP.sub (ws' := sceneW k (fun j => a (2 + j)) R.1) [2, 3, 4, 5, 6, 7, 8, 9] rfl) 0 1 rfl rfl rfl rfl rfl (Nat.le_of_ble_eq_true rfl) dX4_hasMean_5 ⟨Nat.zero_le _, Nat.zero_le _⟩ ?_
  refine lv_if_eq (tgt := 25) hx hb dX4_hasMean_8 (by decide) (fun c3 => ?_) (fun c3 => ?_)
  · have h := if_t h c3
    refine lv_iconst (v := 0) hx hb dX4_hasMean_25 (by decide) ?_
    obtain rfl := Option.some.inj h
    exact hQ _ _ dX4_hasMean_26
  · have h := if_f h c3
    refine lv_aload_n hx hb dX4_hasMean_11 rfl (lv_at hl 0 rfl) ?_
    refine va_get (D := D) (ci := 4) (v := .ref (a 2)) (C := RX4) (T := TX4) (N := 5) hx hb hts hiRX4 hown hK hP 0 rfl rfl 0 (by decide) hf12 (fun _ h9 => h9) rfl dX4_hasMean_12 ?_
    obtain ⟨x4, h5, h⟩ := bd_s h
    refine cR_V (As := []) (rest := []) (n := 0) (v := .int x4) hx hb hml hown hts hK hN hl.1 (c_X1_plotCount l D k (fun j => a (2 + j)) R.1 x4 h5) gX4_hasMean_X1_plotCount rfl (by decide +kernel) ⟨⟨rfl, rfl⟩, by decide, by decide⟩ (hP.sub (ws' := sceneW k (fun j => a (2 + j)) R.1) [2, 3, 4, 5, 6, 7, 8, 9] rfl) 0 1 rfl rfl rfl rfl rfl (Nat.le_of_ble_eq_true rfl) dX4_hasMean_15 ⟨Nat.zero_le _, Nat.zero_le _⟩ ?_
    refine lv_if_le (tgt := 25) hx hb dX4_hasMean_18 (by decide) (fun c6 => ?_) (fun c6 => ?_)
    · have h := if_t h c6
      refine lv_iconst (v := 0) hx hb dX4_hasMean_25 (by decide) ?_
      obtain rfl := Option.some.inj h
      exact hQ _ _ dX4_hasMean_26
    · have h := if_f h c6
      refine lv_iconst (v := 1) hx hb dX4_hasMean_21 (by decide) ?_
      refine lv_goto (tgt := 26) hx hb dX4_hasMean_22 (by decide) ?_
      obtain rfl := Option.some.inj h
      exact hQ _ _ dX4_hasMean_26

abbrev rm_X4_rainOn : Room := { frames := 4, cells := 0, slots := 0, locals := 102 }
def f_X4_rainOn_L11 (R : RcV) (y1 : Int32) (p2 : Nat) (z : Int32 × Int32) : Option ((Int32 × Int32) ⊕ (Int32)) := if (R.1).2.2.1 ≤ z.2 then (some (.inr z.1)) else (gd (decide (p2 < 7)) (gd (ix z.2 8) ((if (((R.2.2.2.2.1).2.2.2.2.2.2 p2).2.2.1 (z.2 : Int32).toNatClampNeg) ≤ 0 then (some z.1) else (gd (ix z.2 8) ((f_X1_readingOf R.1 z.2 y1).bind (fun x11 => some (z.1 + ((((R.2.2.2.2.1).2.2.2.2.2.2 p2).2.2.1 (z.2 : Int32).toNatClampNeg) * x11))))) : Option (Int32)).bind (fun x6 => some (.inl (x6, (z.2 + 1)))))))
def f_X4_rainOn (R : RcV) (y1 : Int32) : Option (Int32 × RcV) := (f_X4_cellsOn R y1).bind (fun x1 => (lp (f_X4_rainOn_L11 x1.2 y1 x1.1) fu (0, 0)).bind (fun x3 => some (x3, x1.2)))
set_option maxHeartbeats 4000000 in
set_option maxRecDepth 100000 in
theorem c_X4_rainOn (l : Launch) (D : va_G) (k : Nat → ClassId) (a : Nat → Nat) (R : RcV) (y1 : Int32) (r : Int32 × RcV) (h : f_X4_rainOn R y1 = some r) : Met l yX4_rainOn wsX4_rainOn rm_X4_rainOn (va_Pc [.ref (a 0), .int y1] (MB D k (rcW k a R))) (QM D (rcW k a R) (rcW k a r.2) (some (.int r.1))) 0 0 (AD (rcW k a R)) := by
  refine met_Mi (by decide) rfl (Nat.le_of_ble_eq_true rfl) ?_
  intro p e s m below meth c Q args ls hx hb hml hown hts hP hK hN hD hl hQ
  have hl : lv_has ls 5 [(0, .ref (a 0)), (1, .int y1)] := hl
  have hown : s.vm.findClass RX4 = some m.cls := hown
  unfold f_X4_rainOn at h
  have hiRX4 : ∀ w ∈ u_ws RX4 TX4 5, w ∈ wsX4_rainOn := by decide +kernel
  have hiRX1 : ∀ w ∈ u_ws RX1 TX1 8, w ∈ wsX4_rainOn := by decide +kernel
  have hiRX0 : ∀ w ∈ u_ws RX0 TX0 4, w ∈ wsX4_rainOn := by decide +kernel
  have hf12 := hts (.fieldLink RX4 12 "RainCells" "scene" "LRainCells$Scene;") (by decide +kernel)
  have hf63 := hts (.fieldLink RX4 63 "RainCells$Scene" "gauges" "I") (by decide +kernel)
  have hf126 := hts (.fieldLink RX4 126 "RainCells$Cells" "plots" "[I") (by decide +kernel)
  generalize AD (rcW k a R) = A0 at hD hQ
  have hS : va_S A0 s.heap s.heap [] := va_S.rf
  refine lv_aload_n hx hb dX4_rainOn_0 rfl (lv_at hl 0 rfl) ?_
  refine lv_iload_n hx hb dX4_rainOn_1 rfl (lv_at hl 1 rfl) ?_
  obtain ⟨x1, h2, h⟩ := bd_s h
  refine cM_V (As := [.int y1]) (rest := []) (n := 1) (ov := (some (.ref (a (26 + (3 + 4 * x1.1)))))) (wc := rcW k a R) (wc' := rcW k a x1.2) (w1 := rcW k a x1.2) hx hb hml hown hts hK hN hl.1 hP hD hS (Sp.self (rc_ad k a _) (rc_ad k a _)) (c_X4_cellsOn l D k a R y1 x1 h2) gX4_rainOn_X4_cellsOn rfl (by decide +kernel) ⟨⟨rfl, rfl⟩, by decide, by decide⟩ 0 4 rfl rfl rfl rfl rfl (Nat.le_of_ble_eq_true rfl) dX4_rainOn_2 ⟨Nat.zero_le _, Nat.zero_le _⟩ (fun H locs hP hD hS => ?_)
  show W p l e rm_X4_rainOn s m args below meth c H locs 0 0 Q (F0 m 5 ls [.ref (a (26 + (3 + 4 * x1.1)))])
  refine lv_astore_n (lv' := [(2, .ref (a (26 + (3 + 4 * x1.1)))), (0, .ref (a 0)), (1, .int y1)]) hx hb dX4_rainOn_5 rfl hl (by decide) rfl (fun ls hl => ?_)
  refine lv_iconst (v := 0) hx hb dX4_rainOn_6 (by decide) ?_
  refine lv_istore_n (lv' := [(3, .int 0), (2, .ref (a (26 + (3 + 4 * x1.1)))), (0, .ref (a 0)), (1, .int y1)]) hx hb dX4_rainOn_7 rfl hl (by decide) rfl (fun ls hl => ?_)
  refine lv_iconst (v := 0) hx hb dX4_rainOn_8 (by decide) ?_
  refine lv_istore (lv' := [(4, .int 0), (3, .int 0), (2, .ref (a (26 + (3 + 4 * x1.1)))), (0, .ref (a 0)), (1, .int y1)]) hx hb dX4_rainOn_9 hl (by decide) rfl (fun ls hl => ?_)
  obtain ⟨x3, h4, h⟩ := bd_s h
  have K20 : ∀ (ls : Array Slot), lv_has ls 5 [(3, .int x3)] → W p l e rm_X4_rainOn s m args below meth c H locs 0 0 Q (F0 m 60 ls []) := by
    intro ls hl
    refine lv_iload_n hx hb dX4_rainOn_60 rfl (lv_at hl 0 rfl) ?_
    obtain rfl := Option.some.inj h
    exact hQ _ _ _ _ dX4_rainOn_61 hP hS
  refine lp_W (P := fun z5 => ∀ (ls : Array Slot), lv_has ls 5 [(0, .ref (a 0)), (1, .int y1), (2, .ref (a (26 + (3 + 4 * x1.1)))), (3, .int z5.1), (4, .int z5.2)] → W p l e rm_X4_rainOn s m args below meth c H locs 0 0 Q (F0 m 11 ls [])) (E := fun x3 => ∀ (ls : Array Slot), lv_has ls 5 [(3, .int x3)] → W p l e rm_X4_rainOn s m args below meth c H locs 0 0 Q (F0 m 60 ls [])) (fun z5 xx7 hB6 kI8 kE9 => ?_) _ _ _ h4 K20 ls (lv_sub hl [3, 4, 2, 1, 0] rfl)
  intro ls hl
  unfold f_X4_rainOn_L11 at hB6
  refine lv_iload hx hb dX4_rainOn_11 (lv_at hl 4 rfl) ?_
  refine lv_aload_n hx hb dX4_rainOn_13 rfl (lv_at hl 0 rfl) ?_
  refine va_get (D := D) (ci := 4) (v := .ref (a 2)) (C := RX4) (T := TX4) (N := 5) hx hb hts hiRX4 hown hK hP 0 rfl rfl 0 (by decide) hf12 (fun _ h9 => h9) rfl dX4_rainOn_14 ?_
  refine va_get (D := D) (ci := 1) (v := .int (((x1.2).1).2.2.1)) (C := RX1) (T := TX1) (N := 8) hx hb hts hiRX1 hown hK hP 2 rfl rfl 2 (by decide) hf63 (fun _ h9 => h9) rfl dX4_rainOn_17 ?_
  refine lv_icmp_ge (tgt := 60) hx hb dX4_rainOn_20 (by decide) (fun c10 => ?_) (fun c10 => ?_)
  · have hB6 := if_t hB6 c10
    exact kE9 _ (Option.some.inj hB6).symm ls (lv_sub hl [3] rfl)
  · have hB6 := if_f hB6 c10
    refine lv_aload_n hx hb dX4_rainOn_23 rfl (lv_at hl 2 rfl) ?_
    obtain ⟨c11, hB6⟩ := gd_s hB6
    refine va_get (D := D) (ci := 0) (v := .ref (a (26 + (3 + 4 * x1.1 + 2)))) (C := RX0) (T := TX0) (N := 4) hx hb hts hiRX0 hown hK (rc_cell (of_decide_eq_true c11) (hP)) 0 rfl rfl 2 (by decide) hf126 (fun _ h9 => h9) rfl dX4_rainOn_24 ?_
    refine lv_iload hx hb dX4_rainOn_27 (lv_at hl 4 rfl) ?_
    obtain ⟨c12, hB6⟩ := gd_s hB6
    refine va_iald (D := D) hx hb hK (rc_cell (of_decide_eq_true c11) (hP)) 2 0 rfl rfl (ix_in c12) dX4_rainOn_29 ?_
    obtain ⟨x13, h14, hB6⟩ := bd_s hB6
    have K15 : ∀ (ls : Array Slot), lv_has ls 5 [(0, .ref (a 0)), (1, .int y1), (2, .ref (a (26 + (3 + 4 * x1.1)))), (3, .int x13), (4, .int z5.2)] → W p l e rm_X4_rainOn s m args below meth c H locs 0 0 Q (F0 m 54 ls []) := by
      intro ls hl
      refine lv_iinc (v := (z5.2 + 1)) (lv' := [(4, .int (z5.2 + 1)), (0, .ref (a 0)), (1, .int y1), (2, .ref (a (26 + (3 + 4 * x1.1)))), (3, .int x13)]) hx hb dX4_rainOn_54 hl (k := 4) rfl rfl (by decide) rfl (fun ls hl => ?_)
      refine lv_goto (tgt := 11) hx hb dX4_rainOn_57 (by decide) ?_
      exact kI8 _ (Option.some.inj hB6).symm ls (lv_sub hl [1, 2, 3, 4, 0] rfl)
    refine lv_if_le (tgt := 54) hx hb dX4_rainOn_30 (by decide) (fun c16 => ?_) (fun c16 => ?_)
    · have h14 := if_t h14 c16
      obtain rfl := Option.some.inj h14
      exact K15 ls (lv_sub hl [0, 1, 2, 3, 4] rfl)
    · have h14 := if_f h14 c16
      refine lv_iload_n hx hb dX4_rainOn_33 rfl (lv_at hl 3 rfl) ?_
      refine lv_aload_n hx hb dX4_rainOn_34 rfl (lv_at hl 2 rfl) ?_
      refine va_get (D := D) (ci := 0) (v := .ref (a (26 + (3 + 4 * x1.1 + 2)))) (C := RX0) (T := TX0) (N := 4) hx hb hts hiRX0 hown hK (rc_cell (of_decide_eq_true c11) (hP)) 0 rfl rfl 2 (by decide) hf126 (fun _ h9 => h9) rfl dX4_rainOn_35 ?_
      refine lv_iload hx hb dX4_rainOn_38 (lv_at hl 4 rfl) ?_
      obtain ⟨c17, h14⟩ := gd_s h14
      refine va_iald (D := D) hx hb hK (rc_cell (of_decide_eq_true c11) (hP)) 2 0 rfl rfl (ix_in c17) dX4_rainOn_40 ?_
      refine lv_aload_n hx hb dX4_rainOn_41 rfl (lv_at hl 0 rfl) ?_
      refine va_get (D := D) (ci := 4) (v := .ref (a 2)) (C := RX4) (T := TX4) (N := 5) hx hb hts hiRX4 hown hK hP 0 rfl rfl 0 (by decide) hf12 (fun _ h9 => h9) rfl dX4_rainOn_42 ?_
      refine lv_iload hx hb dX4_rainOn_45 (lv_at hl 4 rfl) ?_
      refine lv_iload_n hx hb dX4_rainOn_47 rfl (lv_at hl 1 rfl) ?_
      obtain ⟨x18, h19, h14⟩ := bd_s h14
      refine cR_V (As := [.int z5.2, .int y1]) (rest := [.int ((((x1.2).2.2.2.2.1).2.2.2.2.2.2 x1.1).2.2.1 (z5.2 : Int32).toNatClampNeg), .int z5.1]) (n := 2) (v := .int x18) hx hb hml hown hts hK hN hl.1 (c_X1_readingOf l D k (fun j => a (2 + j)) ((x1.2).1) z5.2 y1 x18 h19) gX4_rainOn_X1_readingOf rfl (by decide +kernel) ⟨⟨rfl, rfl⟩, by decide, by decide⟩ (hP.sub (ws' := sceneW k (fun j => a (2 + j)) ((x1.2).1)) [2, 3, 4, 5, 6, 7, 8, 9] rfl) 0 1 rfl rfl rfl rfl rfl (Nat.le_of_ble_eq_true rfl) dX4_rainOn_48 ⟨Nat.zero_le _, Nat.zero_le _⟩ ?_
      refine lv_imul hx hb dX4_rainOn_51 ?_
      refine lv_iadd hx hb dX4_rainOn_52 ?_
      refine lv_istore_n (lv' := [(3, .int (z5.1 + (((((x1.2).2.2.2.2.1).2.2.2.2.2.2 x1.1).2.2.1 (z5.2 : Int32).toNatClampNeg) * x18))), (0, .ref (a 0)), (1, .int y1), (2, .ref (a (26 + (3 + 4 * x1.1)))), (4, .int z5.2)]) hx hb dX4_rainOn_53 rfl hl (by decide) rfl (fun ls hl => ?_)
      obtain rfl := Option.some.inj h14
      exact K15 ls (lv_sub hl [1, 2, 3, 0, 4] rfl)

abbrev rm_X4_mean : Room := { frames := 5, cells := 0, slots := 0, locals := 126 }
def f_X4_mean (R : RcV) (y1 : Int32) (y2 : Int32) : Option (Int32 × RcV) := (f_X4_isDay y1).bind (fun x1 => if (b2i x1) = 0 then (some ((-2), R)) else ((f_X4_isPart y2).bind (fun x4 => if (b2i x4) = 0 then (some ((-2), R)) else ((f_X4_hasMean R y1).bind (fun x7 => if (b2i x7) = 0 then (some ((-3), R)) else ((f_X4_rainOn R y1).bind (fun x10 => (f_X1_plotCount ((x10.2).1)).bind (fun x12 => (f_X4_part y2 x10.1 x12).bind (fun x14 => some (x14, x10.2))))))))))
set_option maxHeartbeats 4000000 in
set_option maxRecDepth 100000 in
theorem c_X4_mean (l : Launch) (D : va_G) (k : Nat → ClassId) (a : Nat → Nat) (R : RcV) (y1 : Int32) (y2 : Int32) (r : Int32 × RcV) (h : f_X4_mean R y1 y2 = some r) : Met l yX4_mean wsX4_mean rm_X4_mean (va_Pc [.ref (a 0), .int y1, .int y2] (MB D k (rcW k a R))) (QM D (rcW k a R) (rcW k a r.2) (some (.int r.1))) 0 0 (AD (rcW k a R)) := by
  refine met_Mi (by decide) rfl (Nat.le_of_ble_eq_true rfl) ?_
  intro p e s m below meth c Q args ls hx hb hml hown hts hP hK hN hD hl hQ
  have hl : lv_has ls 3 [(0, .ref (a 0)), (1, .int y1), (2, .int y2)] := hl
  have hown : s.vm.findClass RX4 = some m.cls := hown
  unfold f_X4_mean at h
  have hiRX4 : ∀ w ∈ u_ws RX4 TX4 5, w ∈ wsX4_mean := by decide +kernel
  have hf12 := hts (.fieldLink RX4 12 "RainCells" "scene" "LRainCells$Scene;") (by decide +kernel)
  generalize AD (rcW k a R) = A0 at hD hQ
  have hS : va_S A0 s.heap s.heap [] := va_S.rf
  refine lv_iload_n hx hb dX4_mean_0 rfl (lv_at hl 1 rfl) ?_
  obtain ⟨x1, h2, h⟩ := bd_s h
  refine cR_S (As := [.int y1]) (rest := []) (n := 1) (v := .int (b2i x1)) hx hb hml hown hts hK hN hl.1 (c_X4_isDay l D k y1 x1 h2) gX4_mean_X4_isDay rfl (by decide +kernel) ⟨⟨rfl, rfl⟩, by decide, by decide⟩ va_P_nil rfl rfl (Nat.le_of_ble_eq_true rfl) dX4_mean_1 ⟨Nat.zero_le _, Nat.zero_le _⟩ ?_
  refine lv_if_eq (tgt := 14) hx hb dX4_mean_4 (by decide) (fun c3 => ?_) (fun c3 => ?_)
  · have h := if_t h c3
    refine lv_bipush (v := (-2)) hx hb dX4_mean_14 (by decide) ?_
    obtain rfl := Option.some.inj h
    exact hQ _ _ _ _ dX4_mean_16 hP hS
  · have h := if_f h c3
    refine lv_iload_n hx hb dX4_mean_7 rfl (lv_at hl 2 rfl) ?_
    obtain ⟨x4, h5, h⟩ := bd_s h
    refine cR_S (As := [.int y2]) (rest := []) (n := 1) (v := .int (b2i x4)) hx hb hml hown hts hK hN hl.1 (c_X4_isPart l D k y2 x4 h5) gX4_mean_X4_isPart rfl (by decide +kernel) ⟨⟨rfl, rfl⟩, by decide, by decide⟩ va_P_nil rfl rfl (Nat.le_of_ble_eq_true rfl) dX4_mean_8 ⟨Nat.zero_le _, Nat.zero_le _⟩ ?_
    refine lv_if_ne (tgt := 17) hx hb dX4_mean_11 (by decide) (fun c6 => ?_) (fun c6 => ?_)
    · have h := if_f h c6
      refine lv_aload_n hx hb dX4_mean_17 rfl (lv_at hl 0 rfl) ?_
      refine lv_iload_n hx hb dX4_mean_18 rfl (lv_at hl 1 rfl) ?_
      obtain ⟨x7, h8, h⟩ := bd_s h
      refine cR_V (As := [.int y1]) (rest := []) (n := 1) (v := .int (b2i x7)) hx hb hml hown hts hK hN hl.1 (c_X4_hasMean l D k a R y1 x7 h8) gX4_mean_X4_hasMean rfl (by decide +kernel) ⟨⟨rfl, rfl⟩, by decide, by decide⟩ hP 0 4 rfl rfl rfl rfl rfl (Nat.le_of_ble_eq_true rfl) dX4_mean_19 ⟨Nat.zero_le _, Nat.zero_le _⟩ ?_
      refine lv_if_ne (tgt := 28) hx hb dX4_mean_22 (by decide) (fun c9 => ?_) (fun c9 => ?_)
      · have h := if_f h c9
        refine lv_iload_n hx hb dX4_mean_28 rfl (lv_at hl 2 rfl) ?_
        refine lv_aload_n hx hb dX4_mean_29 rfl (lv_at hl 0 rfl) ?_
        refine lv_iload_n hx hb dX4_mean_30 rfl (lv_at hl 1 rfl) ?_
        obtain ⟨x10, h11, h⟩ := bd_s h
        refine cM_V (As := [.int y1]) (rest := [.int y2]) (n := 1) (ov := (some (.int x10.1))) (wc := rcW k a R) (wc' := rcW k a x10.2) (w1 := rcW k a x10.2) hx hb hml hown hts hK hN hl.1 hP hD hS (Sp.self (rc_ad k a _) (rc_ad k a _)) (c_X4_rainOn l D k a R y1 x10 h11) gX4_mean_X4_rainOn rfl (by decide +kernel) ⟨⟨rfl, rfl⟩, by decide, by decide⟩ 0 4 rfl rfl rfl rfl rfl (Nat.le_of_ble_eq_true rfl) dX4_mean_31 ⟨Nat.zero_le _, Nat.zero_le _⟩ (fun H locs hP hD hS => ?_)
        show W p l e rm_X4_mean s m args below meth c H locs 0 0 Q (F0 m 34 ls [.int x10.1, .int y2])
        refine lv_aload_n hx hb dX4_mean_34 rfl (lv_at hl 0 rfl) ?_
        refine va_get (D := D) (ci := 4) (v := .ref (a 2)) (C := RX4) (T := TX4) (N := 5) hx hb hts hiRX4 hown hK hP 0 rfl rfl 0 (by decide) hf12 (fun _ h9 => h9) rfl dX4_mean_35 ?_
        obtain ⟨x12, h13, h⟩ := bd_s h
        refine cR_V (As := []) (rest := [.int x10.1, .int y2]) (n := 0) (v := .int x12) hx hb hml hown hts hK hN hl.1 (c_X1_plotCount l D k (fun j => a (2 + j)) ((x10.2).1) x12 h13) gX4_mean_X1_plotCount rfl (by decide +kernel) ⟨⟨rfl, rfl⟩, by decide, by decide⟩ (hP.sub (ws' := sceneW k (fun j => a (2 + j)) ((x10.2).1)) [2, 3, 4, 5, 6, 7, 8, 9] rfl) 0 1 rfl rfl rfl rfl rfl (Nat.le_of_ble_eq_true rfl) dX4_mean_38 ⟨Nat.zero_le _, Nat.zero_le _⟩ ?_
        obtain ⟨x14, h15, h⟩ := bd_s h
        refine cR_S (As := [.int y2, .int x10.1, .int x12]) (rest := []) (n := 3) (v := .int x14) hx hb hml hown hts hK hN hl.1 (c_X4_part l D k y2 x10.1 x12 x14 h15) gX4_mean_X4_part rfl (by decide +kernel) ⟨⟨rfl, rfl⟩, by decide, by decide⟩ va_P_nil rfl rfl (Nat.le_of_ble_eq_true rfl) dX4_mean_41 ⟨Nat.zero_le _, Nat.zero_le _⟩ ?_
        obtain rfl := Option.some.inj h
        exact hQ _ _ _ _ dX4_mean_44 hP hS
      · have h := if_t h c9
        refine lv_bipush (v := (-3)) hx hb dX4_mean_25 (by decide) ?_
        obtain rfl := Option.some.inj h
        exact hQ _ _ _ _ dX4_mean_27 hP hS
    · have h := if_t h c6
      refine lv_bipush (v := (-2)) hx hb dX4_mean_14 (by decide) ?_
      obtain rfl := Option.some.inj h
      exact hQ _ _ _ _ dX4_mean_16 hP hS

abbrev rm_X4_total : Room := { frames := 5, cells := 0, slots := 0, locals := 126 }
def f_X4_total_L29 (y2 : Int32) (y3 : Int32) (z : Int32 × Int32 × Int32 × RcV) : Option ((Int32 × Int32 × Int32 × RcV) ⊕ (Int32 × Int32 × RcV)) := if y2 < z.2.2.1 then (some (.inr (z.1, z.2.1, z.2.2.2))) else ((f_X4_hasMean z.2.2.2 z.2.2.1).bind (fun x7 => (if (b2i x7) = 0 then (some (z.1, z.2.1, z.2.2.2)) else ((f_X4_rainOn z.2.2.2 z.2.2.1).bind (fun x13 => some ((z.1 + x13.1), (z.2.1 + 1), x13.2))) : Option (Int32 × Int32 × RcV)).bind (fun x9 => some (.inl (x9.1, x9.2.1, (z.2.2.1 + 1), x9.2.2)))))
def f_X4_total (R : RcV) (y1 : Int32) (y2 : Int32) (y3 : Int32) : Option (Int32 × RcV) := (f_X4_areDays y1 y2).bind (fun x1 => if (b2i x1) = 0 then (some ((-2), R)) else (if y3 < 0 then (some ((-2), R)) else (if y3 ≤ 2 then ((lp (f_X4_total_L29 y2 y3) fu (0, 0, y1, R)).bind (fun x6 => if y3 = 2 then (some (x6.2.1, x6.2.2)) else ((f_X1_plotCount ((x6.2.2).1)).bind (fun x14 => (f_X4_part y3 x6.1 x14).bind (fun x16 => some (x16, x6.2.2)))))) else (some ((-2), R)))))
set_option maxHeartbeats 4000000 in
set_option maxRecDepth 100000 in
theorem c_X4_total (l : Launch) (D : va_G) (k : Nat → ClassId) (a : Nat → Nat) (R : RcV) (y1 : Int32) (y2 : Int32) (y3 : Int32) (r : Int32 × RcV) (h : f_X4_total R y1 y2 y3 = some r) : Met l yX4_total wsX4_total rm_X4_total (va_Pc [.ref (a 0), .int y1, .int y2, .int y3] (MB D k (rcW k a R))) (QM D (rcW k a R) (rcW k a r.2) (some (.int r.1))) 0 0 (AD (rcW k a R)) := by
  refine met_Mi (by decide) rfl (Nat.le_of_ble_eq_true rfl) ?_
  intro p e s m below meth c Q args ls hx hb hml hown hts hP hK hN hD hl hQ
  have hl : lv_has ls 7 [(0, .ref (a 0)), (1, .int y1), (2, .int y2), (3, .int y3)] := hl
  have hown : s.vm.findClass RX4 = some m.cls := hown
  unfold f_X4_total at h
  have hiRX4 : ∀ w ∈ u_ws RX4 TX4 5, w ∈ wsX4_total := by decide +kernel
  have hf12 := hts (.fieldLink RX4 12 "RainCells" "scene" "LRainCells$Scene;") (by decide +kernel)
  generalize AD (rcW k a R) = A0 at hD hQ
  have hS : va_S A0 s.heap s.heap [] := va_S.rf
  refine lv_iload_n hx hb dX4_total_0 rfl (lv_at hl 1 rfl) ?_
  refine lv_iload_n hx hb dX4_total_1 rfl (lv_at hl 2 rfl) ?_
  obtain ⟨x1, h2, h⟩ := bd_s h
  refine cR_S (As := [.int y1, .int y2]) (rest := []) (n := 2) (v := .int (b2i x1)) hx hb hml hown hts hK hN hl.1 (c_X4_areDays l D k y1 y2 x1 h2) gX4_total_X4_areDays rfl (by decide +kernel) ⟨⟨rfl, rfl⟩, by decide, by decide⟩ va_P_nil rfl rfl (Nat.le_of_ble_eq_true rfl) dX4_total_2 ⟨Nat.zero_le _, Nat.zero_le _⟩ ?_
  refine lv_if_eq (tgt := 17) hx hb dX4_total_5 (by decide) (fun c3 => ?_) (fun c3 => ?_)
  · have h := if_t h c3
    refine lv_bipush (v := (-2)) hx hb dX4_total_17 (by decide) ?_
    obtain rfl := Option.some.inj h
    exact hQ _ _ _ _ dX4_total_19 hP hS
  · have h := if_f h c3
    refine lv_iload_n hx hb dX4_total_8 rfl (lv_at hl 3 rfl) ?_
    refine lv_if_lt (tgt := 17) hx hb dX4_total_9 (by decide) (fun c4 => ?_) (fun c4 => ?_)
    · have h := if_t h c4
      refine lv_bipush (v := (-2)) hx hb dX4_total_17 (by decide) ?_
      obtain rfl := Option.some.inj h
      exact hQ _ _ _ _ dX4_total_19 hP hS
    · have h := if_f h c4
      refine lv_iload_n hx hb dX4_total_12 rfl (lv_at hl 3 rfl) ?_
      refine lv_iconst (v := 2) hx hb dX4_total_13 (by decide) ?_
      refine lv_icmp_le (tgt := 20) hx hb dX4_total_14 (by decide) (fun c5 => ?_) (fun c5 => ?_)
      · have h := if_t h c5
        refine lv_iconst (v := 0) hx hb dX4_total_20 (by decide) ?_
        refine lv_istore (lv' := [(4, .int 0), (0, .ref (a 0)), (1, .int y1), (2, .int y2), (3, .int y3)]) hx hb dX4_total_21 hl (by decide) rfl (fun ls hl => ?_)
        refine lv_iconst (v := 0) hx hb dX4_total_23 (by decide) ?_
        refine lv_istore (lv' := [(5, .int 0), (4, .int 0), (0, .ref (a 0)), (1, .int y1), (2, .int y2), (3, .int y3)]) hx hb dX4_total_24 hl (by decide) rfl (fun ls hl => ?_)
        refine lv_iload_n hx hb dX4_total_26 rfl (lv_at hl 3 rfl) ?_
        refine lv_istore (lv' := [(6, .int y1), (5, .int 0), (4, .int 0), (0, .ref (a 0)), (1, .int y1), (2, .int y2), (3, .int y3)]) hx hb dX4_total_27 hl (by decide) rfl (fun ls hl => ?_)
        obtain ⟨x6, h7, h⟩ := bd_s h
        have K27 : ∀ (ls : Array Slot) (H : Heap) (locs : List Loc), lv_has ls 7 [(0, .ref (a 0)), (3, .int y3), (4, .int x6.1), (5, .int x6.2.1)] → va_P D vwCl (rcW k a x6.2.2) H → va_D A0 (rcW k a x6.2.2) → va_S A0 s.heap H locs → W p l e rm_X4_total s m args below meth c H locs 0 0 Q (F0 m 64 ls []) := by
          intro ls H locs hl hP hD hS
          refine lv_iload_n hx hb dX4_total_64 rfl (lv_at hl 1 rfl) ?_
          refine lv_iconst (v := 2) hx hb dX4_total_65 (by decide) ?_
          refine lv_icmp_ne (tgt := 74) hx hb dX4_total_66 (by decide) (fun c13 => ?_) (fun c13 => ?_)
          · have h := if_f h c13
            refine lv_iload_n hx hb dX4_total_74 rfl (lv_at hl 1 rfl) ?_
            refine lv_iload hx hb dX4_total_75 (lv_at hl 2 rfl) ?_
            refine lv_aload_n hx hb dX4_total_77 rfl (lv_at hl 0 rfl) ?_
            refine va_get (D := D) (ci := 4) (v := .ref (a 2)) (C := RX4) (T := TX4) (N := 5) hx hb hts hiRX4 hown hK hP 0 rfl rfl 0 (by decide) hf12 (fun _ h9 => h9) rfl dX4_total_78 ?_
            obtain ⟨x14, h15, h⟩ := bd_s h
            refine cR_V (As := []) (rest := [.int x6.1, .int y3]) (n := 0) (v := .int x14) hx hb hml hown hts hK hN hl.1 (c_X1_plotCount l D k (fun j => a (2 + j)) ((x6.2.2).1) x14 h15) gX4_total_X1_plotCount rfl (by decide +kernel) ⟨⟨rfl, rfl⟩, by decide, by decide⟩ (hP.sub (ws' := sceneW k (fun j => a (2 + j)) ((x6.2.2).1)) [2, 3, 4, 5, 6, 7, 8, 9] rfl) 0 1 rfl rfl rfl rfl rfl (Nat.le_of_ble_eq_true rfl) dX4_total_81 ⟨Nat.zero_le _, Nat.zero_le _⟩ ?_
            obtain ⟨x16, h17, h⟩ := bd_s h
            refine cR_S (As := [.int y3, .int x6.1, .int x14]) (rest := []) (n := 3) (v := .int x16) hx hb hml hown hts hK hN hl.1 (c_X4_part l D k y3 x6.1 x14 x16 h17) gX4_total_X4_part rfl (by decide +kernel) ⟨⟨rfl, rfl⟩, by decide, by decide⟩ va_P_nil rfl rfl (Nat.le_of_ble_eq_true rfl) dX4_total_84 ⟨Nat.zero_le _, Nat.zero_le _⟩ ?_
            obtain rfl := Option.some.inj h
            exact hQ _ _ _ _ dX4_total_87 hP hS
          · have h := if_t h c13
            refine lv_iload hx hb dX4_total_69 (lv_at hl 3 rfl) ?_
            refine lv_goto (tgt := 87) hx hb dX4_total_71 (by decide) ?_
            obtain rfl := Option.some.inj h
            exact hQ _ _ _ _ dX4_total_87 hP hS
        refine lp_W (P := fun z8 => ∀ (ls : Array Slot) (H : Heap) (locs : List Loc), lv_has ls 7 [(0, .ref (a 0)), (2, .int y2), (3, .int y3), (4, .int z8.1), (5, .int z8.2.1), (6, .int z8.2.2.1)] → va_P D vwCl (rcW k a z8.2.2.2) H → va_D A0 (rcW k a z8.2.2.2) → va_S A0 s.heap H locs → W p l e rm_X4_total s m args below meth c H locs 0 0 Q (F0 m 29 ls [])) (E := fun x6 => ∀ (ls : Array Slot) (H : Heap) (locs : List Loc), lv_has ls 7 [(0, .ref (a 0)), (3, .int y3), (4, .int x6.1), (5, .int x6.2.1)] → va_P D vwCl (rcW k a x6.2.2) H → va_D A0 (rcW k a x6.2.2) → va_S A0 s.heap H locs → W p l e rm_X4_total s m args below meth c H locs 0 0 Q (F0 m 64 ls [])) (fun z8 xx10 hB9 kI11 kE12 => ?_) _ _ _ h7 K27 ls s.heap [] (lv_sub hl [3, 5, 6, 2, 1, 0] rfl) hP hD hS
        intro ls H locs hl hP hD hS
        unfold f_X4_total_L29 at hB9
        refine lv_iload hx hb dX4_total_29 (lv_at hl 5 rfl) ?_
        refine lv_iload_n hx hb dX4_total_31 rfl (lv_at hl 1 rfl) ?_
        refine lv_icmp_gt (tgt := 64) hx hb dX4_total_32 (by decide) (fun c18 => ?_) (fun c18 => ?_)
        · have hB9 := if_t hB9 c18
          exact kE12 _ (Option.some.inj hB9).symm ls H locs (lv_sub hl [0, 2, 3, 4] rfl) hP hD hS
        · have hB9 := if_f hB9 c18
          refine lv_aload_n hx hb dX4_total_35 rfl (lv_at hl 0 rfl) ?_
          refine lv_iload hx hb dX4_total_36 (lv_at hl 5 rfl) ?_
          obtain ⟨x19, h20, hB9⟩ := bd_s hB9
          refine cR_V (As := [.int z8.2.2.1]) (rest := []) (n := 1) (v := .int (b2i x19)) hx hb hml hown hts hK hN hl.1 (c_X4_hasMean l D k a z8.2.2.2 z8.2.2.1 x19 h20) gX4_total_X4_hasMean rfl (by decide +kernel) ⟨⟨rfl, rfl⟩, by decide, by decide⟩ hP 0 4 rfl rfl rfl rfl rfl (Nat.le_of_ble_eq_true rfl) dX4_total_38 ⟨Nat.zero_le _, Nat.zero_le _⟩ ?_
          obtain ⟨x21, h22, hB9⟩ := bd_s hB9
          have K23 : ∀ (ls : Array Slot) (H : Heap) (locs : List Loc), lv_has ls 7 [(0, .ref (a 0)), (2, .int y2), (3, .int y3), (4, .int x21.1), (5, .int x21.2.1), (6, .int z8.2.2.1)] → va_P D vwCl (rcW k a x21.2.2) H → va_D A0 (rcW k a x21.2.2) → va_S A0 s.heap H locs → W p l e rm_X4_total s m args below meth c H locs 0 0 Q (F0 m 58 ls []) := by
            intro ls H locs hl hP hD hS
            refine lv_iinc (v := (z8.2.2.1 + 1)) (lv' := [(6, .int (z8.2.2.1 + 1)), (0, .ref (a 0)), (2, .int y2), (3, .int y3), (4, .int x21.1), (5, .int x21.2.1)]) hx hb dX4_total_58 hl (k := 5) rfl rfl (by decide) rfl (fun ls hl => ?_)
            refine lv_goto (tgt := 29) hx hb dX4_total_61 (by decide) ?_
            exact kI11 _ (Option.some.inj hB9).symm ls H locs (lv_sub hl [1, 2, 3, 4, 5, 0] rfl) hP hD hS
          refine lv_if_eq (tgt := 58) hx hb dX4_total_41 (by decide) (fun c24 => ?_) (fun c24 => ?_)
          · have h22 := if_t h22 c24
            obtain rfl := Option.some.inj h22
            exact K23 ls H locs (lv_sub hl [0, 1, 2, 3, 4, 5] rfl) hP hD hS
          · have h22 := if_f h22 c24
            refine lv_iload hx hb dX4_total_44 (lv_at hl 3 rfl) ?_
            refine lv_aload_n hx hb dX4_total_46 rfl (lv_at hl 0 rfl) ?_
            refine lv_iload hx hb dX4_total_47 (lv_at hl 5 rfl) ?_
            obtain ⟨x25, h26, h22⟩ := bd_s h22
            refine cM_V (As := [.int z8.2.2.1]) (rest := [.int z8.1]) (n := 1) (ov := (some (.int x25.1))) (wc := rcW k a z8.2.2.2) (wc' := rcW k a x25.2) (w1 := rcW k a x25.2) hx hb hml hown hts hK hN hl.1 hP hD hS (Sp.self (rc_ad k a _) (rc_ad k a _)) (c_X4_rainOn l D k a z8.2.2.2 z8.2.2.1 x25 h26) gX4_total_X4_rainOn rfl (by decide +kernel) ⟨⟨rfl, rfl⟩, by decide, by decide⟩ 0 4 rfl rfl rfl rfl rfl (Nat.le_of_ble_eq_true rfl) dX4_total_49 ⟨Nat.zero_le _, Nat.zero_le _⟩ (fun H locs hP hD hS => ?_)
            show W p l e rm_X4_total s m args below meth c H locs 0 0 Q (F0 m 52 ls [.int x25.1, .int z8.1])
            refine lv_iadd hx hb dX4_total_52 ?_
            refine lv_istore (lv' := [(4, .int (z8.1 + x25.1)), (0, .ref (a 0)), (2, .int y2), (3, .int y3), (5, .int z8.2.1), (6, .int z8.2.2.1)]) hx hb dX4_total_53 hl (by decide) rfl (fun ls hl => ?_)
            refine lv_iinc (v := (z8.2.1 + 1)) (lv' := [(5, .int (z8.2.1 + 1)), (4, .int (z8.1 + x25.1)), (0, .ref (a 0)), (2, .int y2), (3, .int y3), (6, .int z8.2.2.1)]) hx hb dX4_total_55 hl (k := 4) rfl rfl (by decide) rfl (fun ls hl => ?_)
            obtain rfl := Option.some.inj h22
            exact K23 ls H locs (lv_sub hl [2, 3, 4, 1, 0, 5] rfl) hP hD hS
      · have h := if_f h c5
        refine lv_bipush (v := (-2)) hx hb dX4_total_17 (by decide) ?_
        obtain rfl := Option.some.inj h
        exact hQ _ _ _ _ dX4_total_19 hP hS

abbrev rm_X4_spread : Room := { frames := 3, cells := 0, slots := 0, locals := 80 }
def f_X4_spread (R : RcV) (y1 : Int32) : Option (Int32 × RcV) := (f_X4_isDay y1).bind (fun x1 => if (b2i x1) = 0 then (some ((-2), R)) else ((f_X1_workingOn R.1 y1).bind (fun x4 => if x4 = 0 then (some ((-6), R)) else ((f_X3_lookUp R.2.2.2.2.1 R.1 x4).bind (fun x7 => gd (decide (x7.1 < 7)) ((f_X0_farOfAll ((x7.2).2.2.2.2.2.2 x7.1)).bind (fun x10 => some (x10, (R.1, R.2.1, R.2.2.1, R.2.2.2.1, x7.2, R.2.2.2.2.2)))))))))
set_option maxHeartbeats 4000000 in
set_option maxRecDepth 100000 in
theorem c_X4_spread (l : Launch) (D : va_G) (k : Nat → ClassId) (a : Nat → Nat) (R : RcV) (y1 : Int32) (r : Int32 × RcV) (h : f_X4_spread R y1 = some r) : Met l yX4_spread wsX4_spread rm_X4_spread (va_Pc [.ref (a 0), .int y1] (MB D k (rcW k a R))) (QM D (rcW k a R) (rcW k a r.2) (some (.int r.1))) 0 0 (AD (rcW k a R)) := by
  refine met_Mi (by decide) rfl (Nat.le_of_ble_eq_true rfl) ?_
  intro p e s m below meth c Q args ls hx hb hml hown hts hP hK hN hD hl hQ
  have hl : lv_has ls 3 [(0, .ref (a 0)), (1, .int y1)] := hl
  have hown : s.vm.findClass RX4 = some m.cls := hown
  unfold f_X4_spread at h
  have hiRX4 : ∀ w ∈ u_ws RX4 TX4 5, w ∈ wsX4_spread := by decide +kernel
  have hf12 := hts (.fieldLink RX4 12 "RainCells" "scene" "LRainCells$Scene;") (by decide +kernel)
  have hf27 := hts (.fieldLink RX4 27 "RainCells" "store" "LRainCells$Store;") (by decide +kernel)
  generalize AD (rcW k a R) = A0 at hD hQ
  have hS : va_S A0 s.heap s.heap [] := va_S.rf
  refine lv_iload_n hx hb dX4_spread_0 rfl (lv_at hl 1 rfl) ?_
  obtain ⟨x1, h2, h⟩ := bd_s h
  refine cR_S (As := [.int y1]) (rest := []) (n := 1) (v := .int (b2i x1)) hx hb hml hown hts hK hN hl.1 (c_X4_isDay l D k y1 x1 h2) gX4_spread_X4_isDay rfl (by decide +kernel) ⟨⟨rfl, rfl⟩, by decide, by decide⟩ va_P_nil rfl rfl (Nat.le_of_ble_eq_true rfl) dX4_spread_1 ⟨Nat.zero_le _, Nat.zero_le _⟩ ?_
  refine lv_if_ne (tgt := 10) hx hb dX4_spread_4 (by decide) (fun c3 => ?_) (fun c3 => ?_)
  · have h := if_f h c3
    refine lv_aload_n hx hb dX4_spread_10 rfl (lv_at hl 0 rfl) ?_
    refine va_get (D := D) (ci := 4) (v := .ref (a 2)) (C := RX4) (T := TX4) (N := 5) hx hb hts hiRX4 hown hK hP 0 rfl rfl 0 (by decide) hf12 (fun _ h9 => h9) rfl dX4_spread_11 ?_
    refine lv_iload_n hx hb dX4_spread_14 rfl (lv_at hl 1 rfl) ?_
    obtain ⟨x4, h5, h⟩ := bd_s h
    refine cR_V (As := [.int y1]) (rest := []) (n := 1) (v := .int x4) hx hb hml hown hts hK hN hl.1 (c_X1_workingOn l D k (fun j => a (2 + j)) R.1 y1 x4 h5) gX4_spread_X1_workingOn rfl (by decide +kernel) ⟨⟨rfl, rfl⟩, by decide, by decide⟩ (hP.sub (ws' := sceneW k (fun j => a (2 + j)) R.1) [2, 3, 4, 5, 6, 7, 8, 9] rfl) 0 1 rfl rfl rfl rfl rfl (Nat.le_of_ble_eq_true rfl) dX4_spread_15 ⟨Nat.zero_le _, Nat.zero_le _⟩ ?_
    refine lv_istore_n (lv' := [(2, .int x4), (0, .ref (a 0)), (1, .int y1)]) hx hb dX4_spread_18 rfl hl (by decide) rfl (fun ls hl => ?_)
    refine lv_iload_n hx hb dX4_spread_19 rfl (lv_at hl 0 rfl) ?_
    refine lv_if_ne (tgt := 26) hx hb dX4_spread_20 (by decide) (fun c6 => ?_) (fun c6 => ?_)
    · have h := if_f h c6
      refine lv_aload_n hx hb dX4_spread_26 rfl (lv_at hl 1 rfl) ?_
      refine va_get (D := D) (ci := 4) (v := .ref (a 26)) (C := RX4) (T := TX4) (N := 5) hx hb hts hiRX4 hown hK hP 0 rfl rfl 3 (by decide) hf27 (fun _ h9 => h9) rfl dX4_spread_27 ?_
      refine lv_aload_n hx hb dX4_spread_30 rfl (lv_at hl 1 rfl) ?_
      refine va_get (D := D) (ci := 4) (v := .ref (a 2)) (C := RX4) (T := TX4) (N := 5) hx hb hts hiRX4 hown hK hP 0 rfl rfl 0 (by decide) hf12 (fun _ h9 => h9) rfl dX4_spread_31 ?_
      refine lv_iload_n hx hb dX4_spread_34 rfl (lv_at hl 0 rfl) ?_
      obtain ⟨x7, h8, h⟩ := bd_s h
      refine cM_V (As := [.ref (a 2), .int x4]) (rest := []) (n := 2) (ov := (some (.ref (a (26 + (3 + 4 * x7.1)))))) (wc := storeW k (fun j => a (26 + j)) R.2.2.2.2.1 ++ (sceneW k (fun j => a (2 + j)) R.1)) (wc' := storeW k (fun j => a (26 + j)) x7.2 ++ (sceneW k (fun j => a (2 + j)) R.1)) (w1 := rcW k a (R.1, R.2.1, R.2.2.1, R.2.2.2.1, x7.2, R.2.2.2.2.2)) hx hb hml hown hts hK hN hl.1 hP hD hS rcs_st_sc (c_X3_lookUp l D k (fun j => a (26 + j)) (fun j => a (2 + j)) R.2.2.2.2.1 R.1 x4 x7 h8) gX4_spread_X3_lookUp rfl (by decide +kernel) ⟨⟨rfl, rfl⟩, by decide, by decide⟩ 0 3 rfl rfl rfl rfl rfl (Nat.le_of_ble_eq_true rfl) dX4_spread_35 ⟨Nat.zero_le _, Nat.zero_le _⟩ (fun H locs hP hD hS => ?_)
      show W p l e rm_X4_spread s m args below meth c H locs 0 0 Q (F0 m 38 ls [.ref (a (26 + (3 + 4 * x7.1)))])
      obtain ⟨c9, h⟩ := gd_s h
      obtain ⟨x10, h11, h⟩ := bd_s h
      refine cR_V (As := []) (rest := []) (n := 0) (v := .int x10) hx hb hml hown hts hK hN hl.1 (c_X0_farOfAll l D k (fun j => a (26 + (3 + 4 * x7.1 + j))) ((x7.2).2.2.2.2.2.2 x7.1) x10 h11) gX4_spread_X0_farOfAll rfl (by decide +kernel) ⟨⟨rfl, rfl⟩, by decide, by decide⟩ (rc_cell (of_decide_eq_true c9) (hP)) 0 0 rfl rfl rfl rfl rfl (Nat.le_of_ble_eq_true rfl) dX4_spread_38 ⟨Nat.zero_le _, Nat.zero_le _⟩ ?_
      obtain rfl := Option.some.inj h
      exact hQ _ _ _ _ dX4_spread_41 hP hS
    · have h := if_t h c6
      refine lv_bipush (v := (-6)) hx hb dX4_spread_23 (by decide) ?_
      obtain rfl := Option.some.inj h
      exact hQ _ _ _ _ dX4_spread_25 hP hS
  · have h := if_t h c3
    refine lv_bipush (v := (-2)) hx hb dX4_spread_7 (by decide) ?_
    obtain rfl := Option.some.inj h
    exact hQ _ _ _ _ dX4_spread_9 hP hS

abbrev rm_X4_next : Room := { frames := 3, cells := 0, slots := 0, locals := 89 }
def f_X4_next (R : RcV) (y1 : Int32) (y2 : Int32) : Option (Int32 × RcV) := (f_X4_isDay y1).bind (fun x1 => if (b2i x1) = 0 then (some ((-2), R)) else (if y2 < 0 then (some ((-2), R)) else (if y2 ≤ 2 then ((f_X1_workingOn R.1 y1).bind (fun x6 => (f_X2_run R.2.2.2.2.2 R.1 x6).bind (fun x8 => if x8.1 = 1000000000 then (some ((-6), (R.1, R.2.1, R.2.2.1, R.2.2.2.1, R.2.2.2.2.1, x8))) else (if y2 = 0 then (some (x8.2.1, (R.1, R.2.1, R.2.2.1, R.2.2.2.1, R.2.2.2.2.1, x8))) else (if y2 = 1 then (some (x8.2.2.1, (R.1, R.2.1, R.2.2.1, R.2.2.2.1, R.2.2.2.2.1, x8))) else (some (x8.1, (R.1, R.2.1, R.2.2.1, R.2.2.2.1, R.2.2.2.2.1, x8)))))))) else (some ((-2), R)))))
set_option maxHeartbeats 4000000 in
set_option maxRecDepth 100000 in
theorem c_X4_next (l : Launch) (D : va_G) (k : Nat → ClassId) (a : Nat → Nat) (R : RcV) (y1 : Int32) (y2 : Int32) (r : Int32 × RcV) (h : f_X4_next R y1 y2 = some r) : Met l yX4_next wsX4_next rm_X4_next (va_Pc [.ref (a 0), .int y1, .int y2] (MB D k (rcW k a R))) (QM D (rcW k a R) (rcW k a r.2) (some (.int r.1))) 0 0 (AD (rcW k a R)) := by
  refine met_Mi (by decide) rfl (Nat.le_of_ble_eq_true rfl) ?_
  intro p e s m below meth c Q args ls hx hb hml hown hts hP hK hN hD hl hQ
  have hl : lv_has ls 3 [(0, .ref (a 0)), (1, .int y1), (2, .int y2)] := hl
  have hown : s.vm.findClass RX4 = some m.cls := hown
  unfold f_X4_next at h
  have hiRX4 : ∀ w ∈ u_ws RX4 TX4 5, w ∈ wsX4_next := by decide +kernel
  have hiRX2 : ∀ w ∈ u_ws RX2 TX2 8, w ∈ wsX4_next := by decide +kernel
  have hf34 := hts (.fieldLink RX4 34 "RainCells" "search" "LRainCells$Search;") (by decide +kernel)
  have hf12 := hts (.fieldLink RX4 12 "RainCells" "scene" "LRainCells$Scene;") (by decide +kernel)
  have hf163 := hts (.fieldLink RX4 163 "RainCells$Search" "least" "I") (by decide +kernel)
  have hf167 := hts (.fieldLink RX4 167 "RainCells$Search" "leastX" "I") (by decide +kernel)
  have hf170 := hts (.fieldLink RX4 170 "RainCells$Search" "leastY" "I") (by decide +kernel)
  generalize AD (rcW k a R) = A0 at hD hQ
  have hS : va_S A0 s.heap s.heap [] := va_S.rf
  refine lv_iload_n hx hb dX4_next_0 rfl (lv_at hl 1 rfl) ?_
  obtain ⟨x1, h2, h⟩ := bd_s h
  refine cR_S (As := [.int y1]) (rest := []) (n := 1) (v := .int (b2i x1)) hx hb hml hown hts hK hN hl.1 (c_X4_isDay l D k y1 x1 h2) gX4_next_X4_isDay rfl (by decide +kernel) ⟨⟨rfl, rfl⟩, by decide, by decide⟩ va_P_nil rfl rfl (Nat.le_of_ble_eq_true rfl) dX4_next_1 ⟨Nat.zero_le _, Nat.zero_le _⟩ ?_
  refine lv_if_eq (tgt := 16) hx hb dX4_next_4 (by decide) (fun c3 => ?_) (fun c3 => ?_)
  · have h := if_t h c3
    refine lv_bipush (v := (-2)) hx hb dX4_next_16 (by decide) ?_
    obtain rfl := Option.some.inj h
    exact hQ _ _ _ _ dX4_next_18 hP hS
  · have h := if_f h c3
    refine lv_iload_n hx hb dX4_next_7 rfl (lv_at hl 2 rfl) ?_
    refine lv_if_lt (tgt := 16) hx hb dX4_next_8 (by decide) (fun c4 => ?_) (fun c4 => ?_)
    · have h := if_t h c4
      refine lv_bipush (v := (-2)) hx hb dX4_next_16 (by decide) ?_
      obtain rfl := Option.some.inj h
      exact hQ _ _ _ _ dX4_next_18 hP hS
    · have h := if_f h c4
      refine lv_iload_n hx hb dX4_next_11 rfl (lv_at hl 2 rfl) ?_
      refine lv_iconst (v := 2) hx hb dX4_next_12 (by decide) ?_
      refine lv_icmp_le (tgt := 19) hx hb dX4_next_13 (by decide) (fun c5 => ?_) (fun c5 => ?_)
      · have h := if_t h c5
        refine lv_aload_n hx hb dX4_next_19 rfl (lv_at hl 0 rfl) ?_
        refine va_get (D := D) (ci := 4) (v := .ref (a 57)) (C := RX4) (T := TX4) (N := 5) hx hb hts hiRX4 hown hK hP 0 rfl rfl 4 (by decide) hf34 (fun _ h9 => h9) rfl dX4_next_20 ?_
        refine lv_aload_n hx hb dX4_next_23 rfl (lv_at hl 0 rfl) ?_
        refine va_get (D := D) (ci := 4) (v := .ref (a 2)) (C := RX4) (T := TX4) (N := 5) hx hb hts hiRX4 hown hK hP 0 rfl rfl 0 (by decide) hf12 (fun _ h9 => h9) rfl dX4_next_24 ?_
        refine lv_aload_n hx hb dX4_next_27 rfl (lv_at hl 0 rfl) ?_
        refine va_get (D := D) (ci := 4) (v := .ref (a 2)) (C := RX4) (T := TX4) (N := 5) hx hb hts hiRX4 hown hK hP 0 rfl rfl 0 (by decide) hf12 (fun _ h9 => h9) rfl dX4_next_28 ?_
        refine lv_iload_n hx hb dX4_next_31 rfl (lv_at hl 1 rfl) ?_
        obtain ⟨x6, h7, h⟩ := bd_s h
        refine cR_V (As := [.int y1]) (rest := [.ref (a 2), .ref (a 57)]) (n := 1) (v := .int x6) hx hb hml hown hts hK hN hl.1 (c_X1_workingOn l D k (fun j => a (2 + j)) R.1 y1 x6 h7) gX4_next_X1_workingOn rfl (by decide +kernel) ⟨⟨rfl, rfl⟩, by decide, by decide⟩ (hP.sub (ws' := sceneW k (fun j => a (2 + j)) R.1) [2, 3, 4, 5, 6, 7, 8, 9] rfl) 0 1 rfl rfl rfl rfl rfl (Nat.le_of_ble_eq_true rfl) dX4_next_32 ⟨Nat.zero_le _, Nat.zero_le _⟩ ?_
        obtain ⟨x8, h9, h⟩ := bd_s h
        refine cM_V (As := [.ref (a 2), .int x6]) (rest := []) (n := 2) (ov := none) (wc := searchW k (fun j => a (57 + j)) R.2.2.2.2.2 ++ (sceneW k (fun j => a (2 + j)) R.1)) (wc' := searchW k (fun j => a (57 + j)) x8 ++ (sceneW k (fun j => a (2 + j)) R.1)) (w1 := rcW k a (R.1, R.2.1, R.2.2.1, R.2.2.2.1, R.2.2.2.2.1, x8)) hx hb hml hown hts hK hN hl.1 hP hD hS rcs_se_sc (c_X2_run l D k (fun j => a (57 + j)) (fun j => a (2 + j)) R.2.2.2.2.2 R.1 x6 x8 h9) gX4_next_X2_run rfl (by decide +kernel) ⟨⟨rfl, rfl⟩, by decide, by decide⟩ 0 2 rfl rfl rfl rfl rfl (Nat.le_of_ble_eq_true rfl) dX4_next_35 ⟨Nat.zero_le _, Nat.zero_le _⟩ (fun H locs hP hD hS => ?_)
        show W p l e rm_X4_next s m args below meth c H locs 0 0 Q (F0 m 38 ls [])
        refine lv_aload_n hx hb dX4_next_38 rfl (lv_at hl 0 rfl) ?_
        refine va_get (D := D) (ci := 4) (v := .ref (a 57)) (C := RX4) (T := TX4) (N := 5) hx hb hts hiRX4 hown hK hP 0 rfl rfl 4 (by decide) hf34 (fun _ h9 => h9) rfl dX4_next_39 ?_
        refine va_get (D := D) (ci := 2) (v := .int x8.1) (C := RX2) (T := TX2) (N := 8) hx hb hts hiRX2 hown hK hP 57 rfl rfl 0 (by decide) hf163 (fun _ h9 => h9) rfl dX4_next_42 ?_
        refine lv_ldc hx hb hown (hts (.constant RX4 166 (1000000000)) (by decide +kernel)) dX4_next_45 ?_
        refine lv_icmp_ne (tgt := 53) hx hb dX4_next_47 (by decide) (fun c10 => ?_) (fun c10 => ?_)
        · have h := if_f h c10
          refine lv_iload_n hx hb dX4_next_53 rfl (lv_at hl 2 rfl) ?_
          by_cases c11 : y2 = 0
          · have h := if_t h c11
            refine lv_lookup (off := 26) (tgt := 80) hx hb dX4_next_54 (by decide) (by first | (rw [c11]; done) | (rw [c11]; rfl)) (by decide) ?_
            refine lv_aload_n hx hb dX4_next_80 rfl (lv_at hl 0 rfl) ?_
            refine va_get (D := D) (ci := 4) (v := .ref (a 57)) (C := RX4) (T := TX4) (N := 5) hx hb hts hiRX4 hown hK hP 0 rfl rfl 4 (by decide) hf34 (fun _ h9 => h9) rfl dX4_next_81 ?_
            refine va_get (D := D) (ci := 2) (v := .int x8.2.1) (C := RX2) (T := TX2) (N := 8) hx hb hts hiRX2 hown hK hP 57 rfl rfl 1 (by decide) hf167 (fun _ h9 => h9) rfl dX4_next_84 ?_
            obtain rfl := Option.some.inj h
            exact hQ _ _ _ _ dX4_next_87 hP hS
          have h := if_f h c11
          by_cases c12 : y2 = 1
          · have h := if_t h c12
            refine lv_lookup (off := 34) (tgt := 88) hx hb dX4_next_54 (by decide) (by refine Eq.trans (lv_osw c11 (k := 0) (by decide)) ?_; first | (rw [c12]; done) | (rw [c12]; rfl)) (by decide) ?_
            refine lv_aload_n hx hb dX4_next_88 rfl (lv_at hl 0 rfl) ?_
            refine va_get (D := D) (ci := 4) (v := .ref (a 57)) (C := RX4) (T := TX4) (N := 5) hx hb hts hiRX4 hown hK hP 0 rfl rfl 4 (by decide) hf34 (fun _ h9 => h9) rfl dX4_next_89 ?_
            refine va_get (D := D) (ci := 2) (v := .int x8.2.2.1) (C := RX2) (T := TX2) (N := 8) hx hb hts hiRX2 hown hK hP 57 rfl rfl 2 (by decide) hf170 (fun _ h9 => h9) rfl dX4_next_92 ?_
            obtain rfl := Option.some.inj h
            exact hQ _ _ _ _ dX4_next_95 hP hS
          have h := if_f h c12
          refine lv_lookup (off := 42) (tgt := 96) hx hb dX4_next_54 (by decide) (by refine Eq.trans (lv_osw c11 (k := 0) (by decide)) ?_; refine Eq.trans (lv_osw c12 (k := 1) (by decide)) ?_; rfl) (by decide) ?_
          refine lv_aload_n hx hb dX4_next_96 rfl (lv_at hl 0 rfl) ?_
          refine va_get (D := D) (ci := 4) (v := .ref (a 57)) (C := RX4) (T := TX4) (N := 5) hx hb hts hiRX4 hown hK hP 0 rfl rfl 4 (by decide) hf34 (fun _ h9 => h9) rfl dX4_next_97 ?_
          refine va_get (D := D) (ci := 2) (v := .int x8.1) (C := RX2) (T := TX2) (N := 8) hx hb hts hiRX2 hown hK hP 57 rfl rfl 0 (by decide) hf163 (fun _ h9 => h9) rfl dX4_next_100 ?_
          obtain rfl := Option.some.inj h
          exact hQ _ _ _ _ dX4_next_103 hP hS
        · have h := if_t h c10
          refine lv_bipush (v := (-6)) hx hb dX4_next_50 (by decide) ?_
          obtain rfl := Option.some.inj h
          exact hQ _ _ _ _ dX4_next_52 hP hS
      · have h := if_f h c5
        refine lv_bipush (v := (-2)) hx hb dX4_next_16 (by decide) ?_
        obtain rfl := Option.some.inj h
        exact hQ _ _ _ _ dX4_next_18 hP hS
