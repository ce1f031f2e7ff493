/-! written by wip/whole/gen.py -/
abbrev rm_X4_row : Room := { frames := 2, cells := 0, slots := 0, locals := 43 }
def f_X4_row (R : RcV) (y1 : Int32) (y2 : Int32) (y3 : Int32) : Option (Int32 × RcV) := (f_X4_isPlot y2 y1).bind (fun x1 => if (b2i x1) = 0 then (some ((-2), R)) else ((f_X4_isPlot y3 y1).bind (fun x4 => if (b2i x4) = 0 then (some ((-2), R)) else (gd (ix y1 16) (gd (ix y1 16) ((f_X3_letAllGo R.2.2.2.2.1).bind (fun x9 => (f_X1_plotCount ((upd ((R.1).1) (y1 : Int32).toNatClampNeg y2), (upd ((R.1).2.1) (y1 : Int32).toNatClampNeg y3), (R.1).2.2)).bind (fun x11 => some (x11, (((upd ((R.1).1) (y1 : Int32).toNatClampNeg y2), (upd ((R.1).2.1) (y1 : Int32).toNatClampNeg y3), (R.1).2.2), R.2.1, R.2.2.1, R.2.2.2.1, x9, R.2.2.2.2.2))))))))))
set_option maxHeartbeats 4000000 in
set_option maxRecDepth 100000 in
theorem c_X4_row (l : Launch) (D : va_G) (k : Nat → ClassId) (a : Nat → Nat) (R : RcV) (y1 : Int32) (y2 : Int32) (y3 : Int32) (r : Int32 × RcV) (h : f_X4_row R y1 y2 y3 = some r) : Met l yX4_row wsX4_row rm_X4_row (va_Pc [.ref (a 0), .int y1, .int y2, .int y3] (MB D k (rcW k a R))) (QM D (rcW k a R) (rcW k a r.2) (some (.int r.1))) 0 0 (AD (rcW k a R)) := by
  refine met_Mi (by decide) rfl (Nat.le_of_ble_eq_true rfl) ?_
  intro p e s m below meth c Q args ls hx hb hml hown hts hP hK hN hD hl hQ
  have hl : lv_has ls 4 [(0, .ref (a 0)), (1, .int y1), (2, .int y2), (3, .int y3)] := hl
  have hown : s.vm.findClass RX4 = some m.cls := hown
  unfold f_X4_row at h
  have hiRX4 : ∀ w ∈ u_ws RX4 TX4 5, w ∈ wsX4_row := by decide +kernel
  have hiRX1 : ∀ w ∈ u_ws RX1 TX1 8, w ∈ wsX4_row := by decide +kernel
  have hf12 := hts (.fieldLink RX4 12 "RainCells" "scene" "LRainCells$Scene;") (by decide +kernel)
  have hf42 := hts (.fieldLink RX4 42 "RainCells$Scene" "rowFrom" "[I") (by decide +kernel)
  have hf46 := hts (.fieldLink RX4 46 "RainCells$Scene" "rowTo" "[I") (by decide +kernel)
  have hf27 := hts (.fieldLink RX4 27 "RainCells" "store" "LRainCells$Store;") (by decide +kernel)
  generalize AD (rcW k a R) = A0 at hD hQ
  have hS : va_S A0 s.heap s.heap [] := va_S.rf
  refine lv_iload_n hx hb dX4_row_0 rfl (lv_at hl 2 rfl) ?_
  refine lv_iload_n hx hb dX4_row_1 rfl (lv_at hl 1 rfl) ?_
  obtain ⟨x1, h2, h⟩ := bd_s h
  refine cR_S (As := [.int y2, .int y1]) (rest := []) (n := 2) (v := .int (b2i x1)) hx hb hml hown hts hK hN hl.1 (c_X4_isPlot l D k y2 y1 x1 h2) gX4_row_X4_isPlot rfl (by decide +kernel) ⟨⟨rfl, rfl⟩, by decide, by decide⟩ va_P_nil rfl rfl (Nat.le_of_ble_eq_true rfl) dX4_row_2 ⟨Nat.zero_le _, Nat.zero_le _⟩ ?_
  refine lv_if_eq (tgt := 16) hx hb dX4_row_5 (by decide) (fun c3 => ?_) (fun c3 => ?_)
  · have h := if_t h c3
    refine lv_bipush (v := (-2)) hx hb dX4_row_16 (by decide) ?_
    obtain rfl := Option.some.inj h
    exact hQ _ _ _ _ dX4_row_18 hP hS
  · have h := if_f h c3
    refine lv_iload_n hx hb dX4_row_8 rfl (lv_at hl 3 rfl) ?_
    refine lv_iload_n hx hb dX4_row_9 rfl (lv_at hl 1 rfl) ?_
    obtain ⟨x4, h5, h⟩ := bd_s h
    refine cR_S (As := [.int y3, .int y1]) (rest := []) (n := 2) (v := .int (b2i x4)) hx hb hml hown hts hK hN hl.1 (c_X4_isPlot l D k y3 y1 x4 h5) gX4_row_X4_isPlot rfl (by decide +kernel) ⟨⟨rfl, rfl⟩, by decide, by decide⟩ va_P_nil rfl rfl (Nat.le_of_ble_eq_true rfl) dX4_row_10 ⟨Nat.zero_le _, Nat.zero_le _⟩ ?_
    refine lv_if_ne (tgt := 19) hx hb dX4_row_13 (by decide) (fun c6 => ?_) (fun c6 => ?_)
    · have h := if_f h c6
      refine lv_aload_n hx hb dX4_row_19 rfl (lv_at hl 0 rfl) ?_
      refine va_get (D := D) (ci := 4) (v := .ref (a 2)) (C := RX4) (T := TX4) (N := 5) hx hb hts hiRX4 hown hK hP 0 rfl rfl 0 (by decide) hf12 (fun _ h9 => h9) rfl dX4_row_20 ?_
      refine va_get (D := D) (ci := 1) (v := .ref (a 3)) (C := RX1) (T := TX1) (N := 8) hx hb hts hiRX1 hown hK hP 2 rfl rfl 0 (by decide) hf42 (fun _ h9 => h9) rfl dX4_row_23 ?_
      refine lv_iload_n hx hb dX4_row_26 rfl (lv_at hl 1 rfl) ?_
      refine lv_iload_n hx hb dX4_row_27 rfl (lv_at hl 2 rfl) ?_
      obtain ⟨c7, h⟩ := gd_s h
      refine va_iast (D := D) hx hb hK hP hD hS 3 0 rfl rfl (ix_in c7) dX4_row_28 (fun H locs hP hD hS => ?_)
      have hP : va_P D vwCl (rcW k a (((upd ((R.1).1) (y1 : Int32).toNatClampNeg y2), (R.1).2), R.2)) H := hP
      have hD : va_D A0 (rcW k a (((upd ((R.1).1) (y1 : Int32).toNatClampNeg y2), (R.1).2), R.2)) := hD
      refine lv_aload_n hx hb dX4_row_29 rfl (lv_at hl 0 rfl) ?_
      refine va_get (D := D) (ci := 4) (v := .ref (a 2)) (C := RX4) (T := TX4) (N := 5) hx hb hts hiRX4 hown hK hP 0 rfl rfl 0 (by decide) hf12 (fun _ h9 => h9) rfl dX4_row_30 ?_
      refine va_get (D := D) (ci := 1) (v := .ref (a 4)) (C := RX1) (T := TX1) (N := 8) hx hb hts hiRX1 hown hK hP 2 rfl rfl 1 (by decide) hf46 (fun _ h9 => h9) rfl dX4_row_33 ?_
      refine lv_iload_n hx hb dX4_row_36 rfl (lv_at hl 1 rfl) ?_
      refine lv_iload_n hx hb dX4_row_37 rfl (lv_at hl 3 rfl) ?_
      obtain ⟨c8, h⟩ := gd_s h
      refine va_iast (D := D) hx hb hK hP hD hS 4 0 rfl rfl (ix_in c8) dX4_row_38 (fun H locs hP hD hS => ?_)
      have hP : va_P D vwCl (rcW k a (((upd ((R.1).1) (y1 : Int32).toNatClampNeg y2), (upd ((R.1).2.1) (y1 : Int32).toNatClampNeg y3), (R.1).2.2), R.2)) H := hP
      have hD : va_D A0 (rcW k a (((upd ((R.1).1) (y1 : Int32).toNatClampNeg y2), (upd ((R.1).2.1) (y1 : Int32).toNatClampNeg y3), (R.1).2.2), R.2)) := hD
      refine lv_aload_n hx hb dX4_row_39 rfl (lv_at hl 0 rfl) ?_
      refine va_get (D := D) (ci := 4) (v := .ref (a 26)) (C := RX4) (T := TX4) (N := 5) hx hb hts hiRX4 hown hK hP 0 rfl rfl 3 (by decide) hf27 (fun _ h9 => h9) rfl dX4_row_40 ?_
      obtain ⟨x9, h10, h⟩ := bd_s h
      refine cM_V (As := []) (rest := []) (n := 0) (ov := none) (wc := storeW k (fun j => a (26 + j)) R.2.2.2.2.1) (wc' := storeW k (fun j => a (26 + j)) x9) (w1 := rcW k a (((upd ((R.1).1) (y1 : Int32).toNatClampNeg y2), (upd ((R.1).2.1) (y1 : Int32).toNatClampNeg y3), (R.1).2.2), R.2.1, R.2.2.1, R.2.2.2.1, x9, R.2.2.2.2.2)) hx hb hml hown hts hK hN hl.1 hP hD hS rcs_st (c_X3_letAllGo l D k (fun j => a (26 + j)) R.2.2.2.2.1 x9 h10) gX4_row_X3_letAllGo rfl (by decide +kernel) ⟨⟨rfl, rfl⟩, by decide, by decide⟩ 0 3 rfl rfl rfl rfl rfl (Nat.le_of_ble_eq_true rfl) dX4_row_43 ⟨Nat.zero_le _, Nat.zero_le _⟩ (fun H locs hP hD hS => ?_)
      show W p l e rm_X4_row s m args below meth c H locs 0 0 Q (F0 m 46 ls [])
      refine lv_aload_n hx hb dX4_row_46 rfl (lv_at hl 0 rfl) ?_
      refine va_get (D := D) (ci := 4) (v := .ref (a 2)) (C := RX4) (T := TX4) (N := 5) hx hb hts hiRX4 hown hK hP 0 rfl rfl 0 (by decide) hf12 (fun _ h9 => h9) rfl dX4_row_47 ?_
      obtain ⟨x11, h12, h⟩ := bd_s h
      refine cR_V (As := []) (rest := []) (n := 0) (v := .int x11) hx hb hml hown hts hK hN hl.1 (c_X1_plotCount l D k (fun j => a (2 + j)) ((upd ((R.1).1) (y1 : Int32).toNatClampNeg y2), (upd ((R.1).2.1) (y1 : Int32).toNatClampNeg y3), (R.1).2.2) x11 h12) gX4_row_X1_plotCount rfl (by decide +kernel) ⟨⟨rfl, rfl⟩, by decide, by decide⟩ (hP.sub (ws' := sceneW k (fun j => a (2 + j)) ((upd ((R.1).1) (y1 : Int32).toNatClampNeg y2), (upd ((R.1).2.1) (y1 : Int32).toNatClampNeg y3), (R.1).2.2)) [2, 3, 4, 5, 6, 7, 8, 9] rfl) 0 1 rfl rfl rfl rfl rfl (Nat.le_of_ble_eq_true rfl) dX4_row_50 ⟨Nat.zero_le _, Nat.zero_le _⟩ ?_
      obtain rfl := Option.some.inj h
      exact hQ _ _ _ _ dX4_row_53 hP hS
    · have h := if_t h c6
      refine lv_bipush (v := (-2)) hx hb dX4_row_16 (by decide) ?_
      obtain rfl := Option.some.inj h
      exact hQ _ _ _ _ dX4_row_18 hP hS

abbrev rm_X4_gauge : Room := { frames := 1, cells := 0, slots := 0, locals := 23 }
def f_X4_gauge (R : RcV) (y1 : Int32) (y2 : Int32) : Option (Int32 × RcV) := (f_X4_isPlace y1 y2).bind (fun x1 => if (b2i x1) = 0 then (some ((-2), R)) else ((f_X1_gaugeAt R.1 y1 y2).bind (fun x4 => if x4 = (-1) then (if (R.1).2.2.1 < 8 then (gd (ix ((R.1).2.2.1) 8) (gd (ix ((R.1).2.2.1) 8) ((f_X3_letAllGo R.2.2.2.2.1).bind (fun x10 => some ((R.1).2.2.1, (((R.1).1, (R.1).2.1, ((R.1).2.2.1 + 1), (upd ((R.1).2.2.2.1) ((R.1).2.2.1 : Int32).toNatClampNeg y1), (upd ((R.1).2.2.2.2.1) ((R.1).2.2.1 : Int32).toNatClampNeg y2), (R.1).2.2.2.2.2), R.2.1, R.2.2.1, R.2.2.2.1, x10, R.2.2.2.2.2)))))) else (some ((-4), R))) else (some ((-5), R)))))
set_option maxHeartbeats 4000000 in
set_option maxRecDepth 100000 in
theorem c_X4_gauge (l : Launch) (D : va_G) (k : Nat → ClassId) (a : Nat → Nat) (R : RcV) (y1 : Int32) (y2 : Int32) (r : Int32 × RcV) (h : f_X4_gauge R y1 y2 = some r) : Met l yX4_gauge wsX4_gauge rm_X4_gauge (va_Pc [.ref (a 0), .int y1, .int y2] (MB D k (rcW k a R))) (QM D (rcW k a R) (rcW k a r.2) (some (.int r.1))) 0 0 (AD (rcW k a R)) := by
  refine met_Mi (by decide) rfl (Nat.le_of_ble_eq_true rfl) ?_
  intro p e s m below meth c Q args ls hx hb hml hown hts hP hK hN hD hl hQ
  have hl : lv_has ls 4 [(0, .ref (a 0)), (1, .int y1), (2, .int y2)] := hl
  have hown : s.vm.findClass RX4 = some m.cls := hown
  unfold f_X4_gauge at h
  have hiRX4 : ∀ w ∈ u_ws RX4 TX4 5, w ∈ wsX4_gauge := by decide +kernel
  have hiRX1 : ∀ w ∈ u_ws RX1 TX1 8, w ∈ wsX4_gauge := by decide +kernel
  have hf12 := hts (.fieldLink RX4 12 "RainCells" "scene" "LRainCells$Scene;") (by decide +kernel)
  have hf63 := hts (.fieldLink RX4 63 "RainCells$Scene" "gauges" "I") (by decide +kernel)
  have hf66 := hts (.fieldLink RX4 66 "RainCells$Scene" "placeX" "[I") (by decide +kernel)
  have hf69 := hts (.fieldLink RX4 69 "RainCells$Scene" "placeY" "[I") (by decide +kernel)
  have hf27 := hts (.fieldLink RX4 27 "RainCells" "store" "LRainCells$Store;") (by decide +kernel)
  generalize AD (rcW k a R) = A0 at hD hQ
  have hS : va_S A0 s.heap s.heap [] := va_S.rf
  refine lv_iload_n hx hb dX4_gauge_0 rfl (lv_at hl 1 rfl) ?_
  refine lv_iload_n hx hb dX4_gauge_1 rfl (lv_at hl 2 rfl) ?_
  obtain ⟨x1, h2, h⟩ := bd_s h
  refine cR_S (As := [.int y1, .int y2]) (rest := []) (n := 2) (v := .int (b2i x1)) hx hb hml hown hts hK hN hl.1 (c_X4_isPlace l D k y1 y2 x1 h2) gX4_gauge_X4_isPlace rfl (by decide +kernel) ⟨⟨rfl, rfl⟩, by decide, by decide⟩ va_P_nil rfl rfl (Nat.le_of_ble_eq_true rfl) dX4_gauge_2 ⟨Nat.zero_le _, Nat.zero_le _⟩ ?_
  refine lv_if_ne (tgt := 11) hx hb dX4_gauge_5 (by decide) (fun c3 => ?_) (fun c3 => ?_)
  · have h := if_f h c3
    refine lv_aload_n hx hb dX4_gauge_11 rfl (lv_at hl 0 rfl) ?_
    refine va_get (D := D) (ci := 4) (v := .ref (a 2)) (C := RX4) (T := TX4) (N := 5) hx hb hts hiRX4 hown hK hP 0 rfl rfl 0 (by decide) hf12 (fun _ h9 => h9) rfl dX4_gauge_12 ?_
    refine lv_iload_n hx hb dX4_gauge_15 rfl (lv_at hl 1 rfl) ?_
    refine lv_iload_n hx hb dX4_gauge_16 rfl (lv_at hl 2 rfl) ?_
    obtain ⟨x4, h5, h⟩ := bd_s h
    refine cR_V (As := [.int y1, .int y2]) (rest := []) (n := 2) (v := .int x4) hx hb hml hown hts hK hN hl.1 (c_X1_gaugeAt l D k (fun j => a (2 + j)) R.1 y1 y2 x4 h5) gX4_gauge_X1_gaugeAt rfl (by decide +kernel) ⟨⟨rfl, rfl⟩, by decide, by decide⟩ (hP.sub (ws' := sceneW k (fun j => a (2 + j)) R.1) [2, 3, 4, 5, 6, 7, 8, 9] rfl) 0 1 rfl rfl rfl rfl rfl (Nat.le_of_ble_eq_true rfl) dX4_gauge_17 ⟨Nat.zero_le _, Nat.zero_le _⟩ ?_
    refine lv_iconst (v := (-1)) hx hb dX4_gauge_20 (by decide) ?_
    refine lv_icmp_eq (tgt := 27) hx hb dX4_gauge_21 (by decide) (fun c6 => ?_) (fun c6 => ?_)
    · have h := if_t h c6
      refine lv_aload_n hx hb dX4_gauge_27 rfl (lv_at hl 0 rfl) ?_
      refine va_get (D := D) (ci := 4) (v := .ref (a 2)) (C := RX4) (T := TX4) (N := 5) hx hb hts hiRX4 hown hK hP 0 rfl rfl 0 (by decide) hf12 (fun _ h9 => h9) rfl dX4_gauge_28 ?_
      refine va_get (D := D) (ci := 1) (v := .int ((R.1).2.2.1)) (C := RX1) (T := TX1) (N := 8) hx hb hts hiRX1 hown hK hP 2 rfl rfl 2 (by decide) hf63 (fun _ h9 => h9) rfl dX4_gauge_31 ?_
      refine lv_bipush (v := 8) hx hb dX4_gauge_34 (by decide) ?_
      refine lv_icmp_lt (tgt := 42) hx hb dX4_gauge_36 (by decide) (fun c7 => ?_) (fun c7 => ?_)
      · have h := if_t h c7
        refine lv_aload_n hx hb dX4_gauge_42 rfl (lv_at hl 0 rfl) ?_
        refine va_get (D := D) (ci := 4) (v := .ref (a 2)) (C := RX4) (T := TX4) (N := 5) hx hb hts hiRX4 hown hK hP 0 rfl rfl 0 (by decide) hf12 (fun _ h9 => h9) rfl dX4_gauge_43 ?_
        refine va_get (D := D) (ci := 1) (v := .int ((R.1).2.2.1)) (C := RX1) (T := TX1) (N := 8) hx hb hts hiRX1 hown hK hP 2 rfl rfl 2 (by decide) hf63 (fun _ h9 => h9) rfl dX4_gauge_46 ?_
        refine lv_istore_n (lv' := [(3, .int ((R.1).2.2.1)), (0, .ref (a 0)), (1, .int y1), (2, .int y2)]) hx hb dX4_gauge_49 rfl hl (by decide) rfl (fun ls hl => ?_)
        refine lv_aload_n hx hb dX4_gauge_50 rfl (lv_at hl 1 rfl) ?_
        refine va_get (D := D) (ci := 4) (v := .ref (a 2)) (C := RX4) (T := TX4) (N := 5) hx hb hts hiRX4 hown hK hP 0 rfl rfl 0 (by decide) hf12 (fun _ h9 => h9) rfl dX4_gauge_51 ?_
        refine lv_iload_n hx hb dX4_gauge_54 rfl (lv_at hl 0 rfl) ?_
        refine lv_iconst (v := 1) hx hb dX4_gauge_55 (by decide) ?_
        refine lv_iadd hx hb dX4_gauge_56 ?_
        refine va_put (D := D) (ci := 1) (v := .int ((R.1).2.2.1 + 1)) (ty := .int) (C := RX1) (T := TX1) (N := 8) hx hb hts hiRX1 tyX1 tyX1_ok nmX1 hown hK hP hD hS 2 rfl rfl 2 (by decide) hf63 (fun _ h9 => h9) rfl (by decide +kernel) rfl rfl (Nat.le_of_ble_eq_true rfl) dX4_gauge_57 (fun H locs hP hD hS => ?_)
        have hP : va_P D vwCl (rcW k a (((R.1).1, (R.1).2.1, ((R.1).2.2.1 + 1), (R.1).2.2.2), R.2)) H := hP
        have hD : va_D A0 (rcW k a (((R.1).1, (R.1).2.1, ((R.1).2.2.1 + 1), (R.1).2.2.2), R.2)) := hD
        refine lv_aload_n hx hb dX4_gauge_60 rfl (lv_at hl 1 rfl) ?_
        refine va_get (D := D) (ci := 4) (v := .ref (a 2)) (C := RX4) (T := TX4) (N := 5) hx hb hts hiRX4 hown hK hP 0 rfl rfl 0 (by decide) hf12 (fun _ h9 => h9) rfl dX4_gauge_61 ?_
        refine va_get (D := D) (ci := 1) (v := .ref (a 5)) (C := RX1) (T := TX1) (N := 8) hx hb hts hiRX1 hown hK hP 2 rfl rfl 3 (by decide) hf66 (fun _ h9 => h9) rfl dX4_gauge_64 ?_
        refine lv_iload_n hx hb dX4_gauge_67 rfl (lv_at hl 0 rfl) ?_
        refine lv_iload_n hx hb dX4_gauge_68 rfl (lv_at hl 2 rfl) ?_
        obtain ⟨c8, h⟩ := gd_s h
        refine va_iast (D := D) hx hb hK hP hD hS 5 0 rfl rfl (ix_in c8) dX4_gauge_69 (fun H locs hP hD hS => ?_)
        have hP : va_P D vwCl (rcW k a (((R.1).1, (R.1).2.1, ((R.1).2.2.1 + 1), (upd ((R.1).2.2.2.1) ((R.1).2.2.1 : Int32).toNatClampNeg y1), (R.1).2.2.2.2), R.2)) H := hP
        have hD : va_D A0 (rcW k a (((R.1).1, (R.1).2.1, ((R.1).2.2.1 + 1), (upd ((R.1).2.2.2.1) ((R.1).2.2.1 : Int32).toNatClampNeg y1), (R.1).2.2.2.2), R.2)) := hD
        refine lv_aload_n hx hb dX4_gauge_70 rfl (lv_at hl 1 rfl) ?_
        refine va_get (D := D) (ci := 4) (v := .ref (a 2)) (C := RX4) (T := TX4) (N := 5) hx hb hts hiRX4 hown hK hP 0 rfl rfl 0 (by decide) hf12 (fun _ h9 => h9) rfl dX4_gauge_71 ?_
        refine va_get (D := D) (ci := 1) (v := .ref (a 6)) (C := RX1) (T := TX1) (N := 8) hx hb hts hiRX1 hown hK hP 2 rfl rfl 4 (by decide) hf69 (fun _ h9 => h9) rfl dX4_gauge_74 ?_
        refine lv_iload_n hx hb dX4_gauge_77 rfl (lv_at hl 0 rfl) ?_
        refine lv_iload_n hx hb dX4_gauge_78 rfl (lv_at hl 3 rfl) ?_
        obtain ⟨c9, h⟩ := gd_s h
        refine va_iast (D := D) hx hb hK hP hD hS 6 0 rfl rfl (ix_in c9) dX4_gauge_79 (fun H locs hP hD hS => ?_)
        have hP : va_P D vwCl (rcW k a (((R.1).1, (R.1).2.1, ((R.1).2.2.1 + 1), (upd ((R.1).2.2.2.1) ((R.1).2.2.1 : Int32).toNatClampNeg y1), (upd ((R.1).2.2.2.2.1) ((R.1).2.2.1 : Int32).toNatClampNeg y2), (R.1).2.2.2.2.2), R.2)) H := hP
        have hD : va_D A0 (rcW k a (((R.1).1, (R.1).2.1, ((R.1).2.2.1 + 1), (upd ((R.1).2.2.2.1) ((R.1).2.2.1 : Int32).toNatClampNeg y1), (upd ((R.1).2.2.2.2.1) ((R.1).2.2.1 : Int32).toNatClampNeg y2), (R.1).2.2.2.2.2), R.2)) := hD
        refine lv_aload_n hx hb dX4_gauge_80 rfl (lv_at hl 1 rfl) ?_
        refine va_get (D := D) (ci := 4) (v := .ref (a 26)) (C := RX4) (T := TX4) (N := 5) hx hb hts hiRX4 hown hK hP 0 rfl rfl 3 (by decide) hf27 (fun _ h9 => h9) rfl dX4_gauge_81 ?_
        obtain ⟨x10, h11, h⟩ := bd_s h
        refine cM_V (As := []) (rest := []) (n := 0) (ov := none) (wc := storeW k (fun j => a (26 + j)) R.2.2.2.2.1) (wc' := storeW k (fun j => a (26 + j)) x10) (w1 := rcW k a (((R.1).1, (R.1).2.1, ((R.1).2.2.1 + 1), (upd ((R.1).2.2.2.1) ((R.1).2.2.1 : Int32).toNatClampNeg y1), (upd ((R.1).2.2.2.2.1) ((R.1).2.2.1 : Int32).toNatClampNeg y2), (R.1).2.2.2.2.2), R.2.1, R.2.2.1, R.2.2.2.1, x10, R.2.2.2.2.2)) hx hb hml hown hts hK hN hl.1 hP hD hS rcs_st (c_X3_letAllGo l D k (fun j => a (26 + j)) R.2.2.2.2.1 x10 h11) gX4_gauge_X3_letAllGo rfl (by decide +kernel) ⟨⟨rfl, rfl⟩, by decide, by decide⟩ 0 3 rfl rfl rfl rfl rfl (Nat.le_of_ble_eq_true rfl) dX4_gauge_84 ⟨Nat.zero_le _, Nat.zero_le _⟩ (fun H locs hP hD hS => ?_)
        show W p l e rm_X4_gauge s m args below meth c H locs 0 0 Q (F0 m 87 ls [])
        refine lv_iload_n hx hb dX4_gauge_87 rfl (lv_at hl 0 rfl) ?_
        obtain rfl := Option.some.inj h
        exact hQ _ _ _ _ dX4_gauge_88 hP hS
      · have h := if_f h c7
        refine lv_bipush (v := (-4)) hx hb dX4_gauge_39 (by decide) ?_
        obtain rfl := Option.some.inj h
        exact hQ _ _ _ _ dX4_gauge_41 hP hS
    · have h := if_f h c6
      refine lv_bipush (v := (-5)) hx hb dX4_gauge_24 (by decide) ?_
      obtain rfl := Option.some.inj h
      exact hQ _ _ _ _ dX4_gauge_26 hP hS
  · have h := if_t h c3
    refine lv_bipush (v := (-2)) hx hb dX4_gauge_8 (by decide) ?_
    obtain rfl := Option.some.inj h
    exact hQ _ _ _ _ dX4_gauge_10 hP hS

abbrev rm_X4_move : Room := { frames := 1, cells := 0, slots := 0, locals := 25 }
def f_X4_move (R : RcV) (y1 : Int32) (y2 : Int32) (y3 : Int32) : Option (Int32 × RcV) := (f_X1_knows R.1 y1).bind (fun x1 => if (b2i x1) = 0 then (some ((-1), R)) else ((f_X4_isPlace y2 y3).bind (fun x4 => if (b2i x4) = 0 then (some ((-2), R)) else ((f_X1_gaugeAt R.1 y2 y3).bind (fun x7 => if x7 = (-1) then ((f_X1_farFrom R.1 y1 y2 y3).bind (fun x10 => gd (ix y1 8) (gd (ix y1 8) ((f_X3_letAllGo R.2.2.2.2.1).bind (fun x14 => some (x10, (((R.1).1, (R.1).2.1, (R.1).2.2.1, (upd ((R.1).2.2.2.1) (y1 : Int32).toNatClampNeg y2), (upd ((R.1).2.2.2.2.1) (y1 : Int32).toNatClampNeg y3), (R.1).2.2.2.2.2), R.2.1, R.2.2.1, R.2.2.2.1, x14, R.2.2.2.2.2))))))) else (if x7 = y1 then ((f_X1_farFrom R.1 y1 y2 y3).bind (fun x17 => gd (ix y1 8) (gd (ix y1 8) ((f_X3_letAllGo R.2.2.2.2.1).bind (fun x21 => some (x17, (((R.1).1, (R.1).2.1, (R.1).2.2.1, (upd ((R.1).2.2.2.1) (y1 : Int32).toNatClampNeg y2), (upd ((R.1).2.2.2.2.1) (y1 : Int32).toNatClampNeg y3), (R.1).2.2.2.2.2), R.2.1, R.2.2.1, R.2.2.2.1, x21, R.2.2.2.2.2))))))) else (some ((-5), R))))))))
set_option maxHeartbeats 4000000 in
set_option maxRecDepth 100000 in
theorem c_X4_move (l : Launch) (D : va_G) (k : Nat → ClassId) (a : Nat → Nat) (R : RcV) (y1 : Int32) (y2 : Int32) (y3 : Int32) (r : Int32 × RcV) (h : f_X4_move R y1 y2 y3 = some r) : Met l yX4_move wsX4_move rm_X4_move (va_Pc [.ref (a 0), .int y1, .int y2, .int y3] (MB D k (rcW k a R))) (QM D (rcW k a R) (rcW k a r.2) (some (.int r.1))) 0 0 (AD (rcW k a R)) := by
  refine met_Mi (by decide) rfl (Nat.le_of_ble_eq_true rfl) ?_
  intro p e s m below meth c Q args ls hx hb hml hown hts hP hK hN hD hl hQ
  have hl : lv_has ls 6 [(0, .ref (a 0)), (1, .int y1), (2, .int y2), (3, .int y3)] := hl
  have hown : s.vm.findClass RX4 = some m.cls := hown
  unfold f_X4_move at h
  have hiRX4 : ∀ w ∈ u_ws RX4 TX4 5, w ∈ wsX4_move := by decide +kernel
  have hiRX1 : ∀ w ∈ u_ws RX1 TX1 8, w ∈ wsX4_move := by decide +kernel
  have hf12 := hts (.fieldLink RX4 12 "RainCells" "scene" "LRainCells$Scene;") (by decide +kernel)
  have hf66 := hts (.fieldLink RX4 66 "RainCells$Scene" "placeX" "[I") (by decide +kernel)
  have hf69 := hts (.fieldLink RX4 69 "RainCells$Scene" "placeY" "[I") (by decide +kernel)
  have hf27 := hts (.fieldLink RX4 27 "RainCells" "store" "LRainCells$Store;") (by decide +kernel)
  generalize AD (rcW k a R) = A0 at hD hQ
  have hS : va_S A0 s.heap s.heap [] := va_S.rf
  refine lv_aload_n hx hb dX4_move_0 rfl (lv_at hl 0 rfl) ?_
  refine va_get (D := D) (ci := 4) (v := .ref (a 2)) (C := RX4) (T := TX4) (N := 5) hx hb hts hiRX4 hown hK hP 0 rfl rfl 0 (by decide) hf12 (fun _ h9 => h9) rfl dX4_move_1 ?_
  refine lv_iload_n hx hb dX4_move_4 rfl (lv_at hl 1 rfl) ?_
  obtain ⟨x1, h2, h⟩ := bd_s h
  refine cR_V (As := [.int y1]) (rest := []) (n := 1) (v := .int (b2i x1)) hx hb hml hown hts hK hN hl.1 (c_X1_knows l D k (fun j => a (2 + j)) R.1 y1 x1 h2) gX4_move_X1_knows rfl (by decide +kernel) ⟨⟨rfl, rfl⟩, by decide, by decide⟩ (hP.sub (ws' := sceneW k (fun j => a (2 + j)) R.1) [2, 3, 4, 5, 6, 7, 8, 9] rfl) 0 1 rfl rfl rfl rfl rfl (Nat.le_of_ble_eq_true rfl) dX4_move_5 ⟨Nat.zero_le _, Nat.zero_le _⟩ ?_
  refine lv_if_ne (tgt := 13) hx hb dX4_move_8 (by decide) (fun c3 => ?_) (fun c3 => ?_)
  · have h := if_f h c3
    refine lv_iload_n hx hb dX4_move_13 rfl (lv_at hl 2 rfl) ?_
    refine lv_iload_n hx hb dX4_move_14 rfl (lv_at hl 3 rfl) ?_
    obtain ⟨x4, h5, h⟩ := bd_s h
    refine cR_S (As := [.int y2, .int y3]) (rest := []) (n := 2) (v := .int (b2i x4)) hx hb hml hown hts hK hN hl.1 (c_X4_isPlace l D k y2 y3 x4 h5) gX4_move_X4_isPlace rfl (by decide +kernel) ⟨⟨rfl, rfl⟩, by decide, by decide⟩ va_P_nil rfl rfl (Nat.le_of_ble_eq_true rfl) dX4_move_15 ⟨Nat.zero_le _, Nat.zero_le _⟩ ?_
    refine lv_if_ne (tgt := 24) hx hb dX4_move_18 (by decide) (fun c6 => ?_) (fun c6 => ?_)
    · have h := if_f h c6
      refine lv_aload_n hx hb dX4_move_24 rfl (lv_at hl 0 rfl) ?_
      refine va_get (D := D) (ci := 4) (v := .ref (a 2)) (C := RX4) (T := TX4) (N := 5) hx hb hts hiRX4 hown hK hP 0 rfl rfl 0 (by decide) hf12 (fun _ h9 => h9) rfl dX4_move_25 ?_
      refine lv_iload_n hx hb dX4_move_28 rfl (lv_at hl 2 rfl) ?_
      refine lv_iload_n hx hb dX4_move_29 rfl (lv_at hl 3 rfl) ?_
      obtain ⟨x7, h8, h⟩ := bd_s h
      refine cR_V (As := [.int y2, .int y3]) (rest := []) (n := 2) (v := .int x7) hx hb hml hown hts hK hN hl.1 (c_X1_gaugeAt l D k (fun j => a (2 + j)) R.1 y2 y3 x7 h8) gX4_move_X1_gaugeAt rfl (by decide +kernel) ⟨⟨rfl, rfl⟩, by decide, by decide⟩ (hP.sub (ws' := sceneW k (fun j => a (2 + j)) R.1) [2, 3, 4, 5, 6, 7, 8, 9] rfl) 0 1 rfl rfl rfl rfl rfl (Nat.le_of_ble_eq_true rfl) dX4_move_30 ⟨Nat.zero_le _, Nat.zero_le _⟩ ?_
      refine lv_istore (lv' := [(4, .int x7), (0, .ref (a 0)), (1, .int y1), (2, .int y2), (3, .int y3)]) hx hb dX4_move_33 hl (by decide) rfl (fun ls hl => ?_)
      refine lv_iload hx hb dX4_move_35 (lv_at hl 0 rfl) ?_
      refine lv_iconst (v := (-1)) hx hb dX4_move_37 (by decide) ?_
      refine lv_icmp_eq (tgt := 50) hx hb dX4_move_38 (by decide) (fun c9 => ?_) (fun c9 => ?_)
      · have h := if_t h c9
        refine lv_aload_n hx hb dX4_move_50 rfl (lv_at hl 1 rfl) ?_
        refine va_get (D := D) (ci := 4) (v := .ref (a 2)) (C := RX4) (T := TX4) (N := 5) hx hb hts hiRX4 hown hK hP 0 rfl rfl 0 (by decide) hf12 (fun _ h9 => h9) rfl dX4_move_51 ?_
        refine lv_iload_n hx hb dX4_move_54 rfl (lv_at hl 2 rfl) ?_
        refine lv_iload_n hx hb dX4_move_55 rfl (lv_at hl 3 rfl) ?_
        refine lv_iload_n hx hb dX4_move_56 rfl (lv_at hl 4 rfl) ?_
        obtain ⟨x10, h11, h⟩ := bd_s h
        refine cR_V (As := [.int y1, .int y2, .int y3]) (rest := []) (n := 3) (v := .int x10) hx hb hml hown hts hK hN hl.1 (c_X1_farFrom l D k (fun j => a (2 + j)) R.1 y1 y2 y3 x10 h11) gX4_move_X1_farFrom rfl (by decide +kernel) ⟨⟨rfl, rfl⟩, by decide, by decide⟩ (hP.sub (ws' := sceneW k (fun j => a (2 + j)) R.1) [2, 3, 4, 5, 6, 7, 8, 9] rfl) 0 1 rfl rfl rfl rfl rfl (Nat.le_of_ble_eq_true rfl) dX4_move_57 ⟨Nat.zero_le _, Nat.zero_le _⟩ ?_
        refine lv_istore (lv' := [(5, .int x10), (4, .int x7), (0, .ref (a 0)), (1, .int y1), (2, .int y2), (3, .int y3)]) hx hb dX4_move_60 hl (by decide) rfl (fun ls hl => ?_)
        refine lv_aload_n hx hb dX4_move_62 rfl (lv_at hl 2 rfl) ?_
        refine va_get (D := D) (ci := 4) (v := .ref (a 2)) (C := RX4) (T := TX4) (N := 5) hx hb hts hiRX4 hown hK hP 0 rfl rfl 0 (by decide) hf12 (fun _ h9 => h9) rfl dX4_move_63 ?_
        refine va_get (D := D) (ci := 1) (v := .ref (a 5)) (C := RX1) (T := TX1) (N := 8) hx hb hts hiRX1 hown hK hP 2 rfl rfl 3 (by decide) hf66 (fun _ h9 => h9) rfl dX4_move_66 ?_
        refine lv_iload_n hx hb dX4_move_69 rfl (lv_at hl 3 rfl) ?_
        refine lv_iload_n hx hb dX4_move_70 rfl (lv_at hl 4 rfl) ?_
        obtain ⟨c12, h⟩ := gd_s h
        refine va_iast (D := D) hx hb hK hP hD hS 5 0 rfl rfl (ix_in c12) dX4_move_71 (fun H locs hP hD hS => ?_)
        have hP : va_P D vwCl (rcW k a (((R.1).1, (R.1).2.1, (R.1).2.2.1, (upd ((R.1).2.2.2.1) (y1 : Int32).toNatClampNeg y2), (R.1).2.2.2.2), R.2)) H := hP
        have hD : va_D A0 (rcW k a (((R.1).1, (R.1).2.1, (R.1).2.2.1, (upd ((R.1).2.2.2.1) (y1 : Int32).toNatClampNeg y2), (R.1).2.2.2.2), R.2)) := hD
        refine lv_aload_n hx hb dX4_move_72 rfl (lv_at hl 2 rfl) ?_
        refine va_get (D := D) (ci := 4) (v := .ref (a 2)) (C := RX4) (T := TX4) (N := 5) hx hb hts hiRX4 hown hK hP 0 rfl rfl 0 (by decide) hf12 (fun _ h9 => h9) rfl dX4_move_73 ?_
        refine va_get (D := D) (ci := 1) (v := .ref (a 6)) (C := RX1) (T := TX1) (N := 8) hx hb hts hiRX1 hown hK hP 2 rfl rfl 4 (by decide) hf69 (fun _ h9 => h9) rfl dX4_move_76 ?_
        refine lv_iload_n hx hb dX4_move_79 rfl (lv_at hl 3 rfl) ?_
        refine lv_iload_n hx hb dX4_move_80 rfl (lv_at hl 5 rfl) ?_
        obtain ⟨c13, h⟩ := gd_s h
        refine va_iast (D := D) hx hb hK hP hD hS 6 0 rfl rfl (ix_in c13) dX4_move_81 (fun H locs hP hD hS => ?_)
        have hP : va_P D vwCl (rcW k a (((R.1).1, (R.1).2.1, (R.1).2.2.1, (upd ((R.1).2.2.2.1) (y1 : Int32).toNatClampNeg y2), (upd ((R.1).2.2.2.2.1) (y1 : Int32).toNatClampNeg y3), (R.1).2.2.2.2.2), R.2)) H := hP
        have hD : va_D A0 (rcW k a (((R.1).1, (R.1).2.1, (R.1).2.2.1, (upd ((R.1).2.2.2.1) (y1 : Int32).toNatClampNeg y2), (upd ((R.1).2.2.2.2.1) (y1 : Int32).toNatClampNeg y3), (R.1).2.2.2.2.2), R.2)) := hD
        refine lv_aload_n hx hb dX4_move_82 rfl (lv_at hl 2 rfl) ?_
        refine va_get (D := D) (ci := 4) (v := .ref (a 26)) (C := RX4) (T := TX4) (N := 5) hx hb hts hiRX4 hown hK hP 0 rfl rfl 3 (by decide) hf27 (fun _ h9 => h9) rfl dX4_move_83 ?_
        obtain ⟨x14, h15, h⟩ := bd_s h
        refine cM_V (As := []) (rest := []) (n := 0) (ov := none) (wc := storeW k (fun j => a (26 + j)) R.2.2.2.2.1) (wc' := storeW k (fun j => a (26 + j)) x14) (w1 := rcW k a (((R.1).1, (R.1).2.1, (R.1).2.2.1, (upd ((R.1).2.2.2.1) (y1 : Int32).toNatClampNeg y2), (upd ((R.1).2.2.2.2.1) (y1 : Int32).toNatClampNeg y3), (R.1).2.2.2.2.2), R.2.1, R.2.2.1, R.2.2.2.1, x14, R.2.2.2.2.2)) hx hb hml hown hts hK hN hl.1 hP hD hS rcs_st (c_X3_letAllGo l D k (fun j => a (26 + j)) R.2.2.2.2.1 x14 h15) gX4_move_X3_letAllGo rfl (by decide +kernel) ⟨⟨rfl, rfl⟩, by decide, by decide⟩ 0 3 rfl rfl rfl rfl rfl (Nat.le_of_ble_eq_true rfl) dX4_move_86 ⟨Nat.zero_le _, Nat.zero_le _⟩ (fun H locs hP hD hS => ?_)
        show W p l e rm_X4_move s m args below meth c H locs 0 0 Q (F0 m 89 ls [])
        refine lv_iload hx hb dX4_move_89 (lv_at hl 0 rfl) ?_
        obtain rfl := Option.some.inj h
        exact hQ _ _ _ _ dX4_move_91 hP hS
      · have h := if_f h c9
        refine lv_iload hx hb dX4_move_41 (lv_at hl 0 rfl) ?_
        refine lv_iload_n hx hb dX4_move_43 rfl (lv_at hl 2 rfl) ?_
        refine lv_icmp_eq (tgt := 50) hx hb dX4_move_44 (by decide) (fun c16 => ?_) (fun c16 => ?_)
        · have h := if_t h c16
          refine lv_aload_n hx hb dX4_move_50 rfl (lv_at hl 1 rfl) ?_
          refine va_get (D := D) (ci := 4) (v := .ref (a 2)) (C := RX4) (T := TX4) (N := 5) hx hb hts hiRX4 hown hK hP 0 rfl rfl 0 (by decide) hf12 (fun _ h9 => h9) rfl dX4_move_51 ?_
          refine lv_iload_n hx hb dX4_move_54 rfl (lv_at hl 2 rfl) ?_
          refine lv_iload_n hx hb dX4_move_55 rfl (lv_at hl 3 rfl) ?_
          refine lv_iload_n hx hb dX4_move_56 rfl (lv_at hl 4 rfl) ?_
          obtain ⟨x17, h18, h⟩ := bd_s h
          refine cR_V (As := [.int y1, .int y2, .int y3]) (rest := []) (n := 3) (v := .int x17) hx hb hml hown hts hK hN hl.1 (c_X1_farFrom l D k (fun j => a (2 + j)) R.1 y1 y2 y3 x17 h18) gX4_move_X1_farFrom rfl (by decide +kernel) ⟨⟨rfl, rfl⟩, by decide, by decide⟩ (hP.sub (ws' := sceneW k (fun j => a (2 + j)) R.1) [2, 3, 4, 5, 6, 7, 8, 9] rfl) 0 1 rfl rfl rfl rfl rfl (Nat.le_of_ble_eq_true rfl) dX4_move_57 ⟨Nat.zero_le _, Nat.zero_le _⟩ ?_
          refine lv_istore (lv' := [(5, .int x17), (4, .int x7), (0, .ref (a 0)), (1, .int y1), (2, .int y2), (3, .int y3)]) hx hb dX4_move_60 hl (by decide) rfl (fun ls hl => ?_)
          refine lv_aload_n hx hb dX4_move_62 rfl (lv_at hl 2 rfl) ?_
          refine va_get (D := D) (ci := 4) (v := .ref (a 2)) (C := RX4) (T := TX4) (N := 5) hx hb hts hiRX4 hown hK hP 0 rfl rfl 0 (by decide) hf12 (fun _ h9 => h9) rfl dX4_move_63 ?_
          refine va_get (D := D) (ci := 1) (v := .ref (a 5)) (C := RX1) (T := TX1) (N := 8) hx hb hts hiRX1 hown hK hP 2 rfl rfl 3 (by decide) hf66 (fun _ h9 => h9) rfl dX4_move_66 ?_
          refine lv_iload_n hx hb dX4_move_69 rfl (lv_at hl 3 rfl) ?_
          refine lv_iload_n hx hb dX4_move_70 rfl (lv_at hl 4 rfl) ?_
          obtain ⟨c19, h⟩ := gd_s h
          refine va_iast (D := D) hx hb hK hP hD hS 5 0 rfl rfl (ix_in c19) dX4_move_71 (fun H locs hP hD hS => ?_)
          have hP : va_P D vwCl (rcW k a (((R.1).1, (R.1).2.1, (R.1).2.2.1, (upd ((R.1).2.2.2.1) (y1 : Int32).toNatClampNeg y2), (R.1).2.2.2.2), R.2)) H := hP
          have hD : va_D A0 (rcW k a (((R.1).1, (R.1).2.1, (R.1).2.2.1, (upd ((R.1).2.2.2.1) (y1 : Int32).toNatClampNeg y2), (R.1).2.2.2.2), R.2)) := hD
          refine lv_aload_n hx hb dX4_move_72 rfl (lv_at hl 2 rfl) ?_
          refine va_get (D := D) (ci := 4) (v := .ref (a 2)) (C := RX4) (T := TX4) (N := 5) hx hb hts hiRX4 hown hK hP 0 rfl rfl 0 (by decide) hf12 (fun _ h9 => h9) rfl dX4_move_73 ?_
          refine va_get (D := D) (ci := 1) (v := .ref (a 6)) (C := RX1) (T := TX1) (N := 8) hx hb hts hiRX1 hown hK hP 2 rfl rfl 4 (by decide) hf69 (fun _ h9 => h9) rfl dX4_move_76 ?_
          refine lv_iload_n hx hb dX4_move_79 rfl (lv_at hl 3 rfl) ?_
          refine lv_iload_n hx hb dX4_move_80 rfl (lv_at hl 5 rfl) ?_
          obtain ⟨c20, h⟩ := gd_s h
          refine va_iast (D := D) hx hb hK hP hD hS 6 0 rfl rfl (ix_in c20) dX4_move_81 (fun H locs hP hD hS => ?_)
          have hP : va_P D vwCl (rcW k a (((R.1).1, (R.1).2.1, (R.1).2.2.1, (upd ((R.1).2.2.2.1) (y1 : Int32).toNatClampNeg y2), (upd ((R.1).2.2.2.2.1) (y1 : Int32).toNatClampNeg y3), (R.1).2.2.2.2.2), R.2)) H := hP
          have hD : va_D A0 (rcW k a (((R.1).1, (R.1).2.1, (R.1).2.2.1, (upd ((R.1).2.2.2.1) (y1 : Int32).toNatClampNeg y2), (upd ((R.1).2.2.2.2.1) (y1 : Int32).toNatClampNeg y3), (R.1).2.2.2.2.2), R.2)) := hD
          refine lv_aload_n hx hb dX4_move_82 rfl (lv_at hl 2 rfl) ?_
          refine va_get (D := D) (ci := 4) (v := .ref (a 26)) (C := RX4) (T := TX4) (N := 5) hx hb hts hiRX4 hown hK hP 0 rfl rfl 3 (by decide) hf27 (fun _ h9 => h9) rfl dX4_move_83 ?_
          obtain ⟨x21, h22, h⟩ := bd_s h
          refine cM_V (As := []) (rest := []) (n := 0) (ov := none) (wc := storeW k (fun j => a (26 + j)) R.2.2.2.2.1) (wc' := storeW k (fun j => a (26 + j)) x21) (w1 := rcW k a (((R.1).1, (R.1).2.1, (R.1).2.2.1, (upd ((R.1).2.2.2.1) (y1 : Int32).toNatClampNeg y2), (upd ((R.1).2.2.2.2.1) (y1 : Int32).toNatClampNeg y3), (R.1).2.2.2.2.2), R.2.1, R.2.2.1, R.2.2.2.1, x21, R.2.2.2.2.2)) hx hb hml hown hts hK hN hl.1 hP hD hS rcs_st (c_X3_letAllGo l D k (fun j => a (26 + j)) R.2.2.2.2.1 x21 h22) gX4_move_X3_letAllGo rfl (by decide +kernel) ⟨⟨rfl, rfl⟩, by decide, by decide⟩ 0 3 rfl rfl rfl rfl rfl (Nat.le_of_ble_eq_true rfl) dX4_move_86 ⟨Nat.zero_le _, Nat.zero_le _⟩ (fun H locs hP hD hS => ?_)
          show W p l e rm_X4_move s m args below meth c H locs 0 0 Q (F0 m 89 ls [])
          refine lv_iload hx hb dX4_move_89 (lv_at hl 0 rfl) ?_
          obtain rfl := Option.some.inj h
          exact hQ _ _ _ _ dX4_move_91 hP hS
        · have h := if_f h c16
          refine lv_bipush (v := (-5)) hx hb dX4_move_47 (by decide) ?_
          obtain rfl := Option.some.inj h
          exact hQ _ _ _ _ dX4_move_49 hP hS
    · have h := if_t h c6
      refine lv_bipush (v := (-2)) hx hb dX4_move_21 (by decide) ?_
      obtain rfl := Option.some.inj h
      exact hQ _ _ _ _ dX4_move_23 hP hS
  · have h := if_t h c3
    refine lv_iconst (v := (-1)) hx hb dX4_move_11 (by decide) ?_
    obtain rfl := Option.some.inj h
    exact hQ _ _ _ _ dX4_move_12 hP hS

abbrev rm_X4_reach : Room := { frames := 1, cells := 0, slots := 0, locals := 21 }
def f_X4_reach (R : RcV) (y1 : Int32) (y2 : Int32) : Option (Int32 × RcV) := (f_X1_knows R.1 y1).bind (fun x1 => if (b2i x1) = 0 then (some ((-1), R)) else (if y2 < (-400) then (some ((-2), R)) else (if y2 ≤ 400 then (gd (ix y1 8) (gd (ix y1 8) ((f_X3_letAllGo R.2.2.2.2.1).bind (fun x8 => some (((((R.1).2.2.2.2.2.1) (y1 : Int32).toNatClampNeg) + 1000), (((R.1).1, (R.1).2.1, (R.1).2.2.1, (R.1).2.2.2.1, (R.1).2.2.2.2.1, (upd ((R.1).2.2.2.2.2.1) (y1 : Int32).toNatClampNeg y2), (R.1).2.2.2.2.2.2), R.2.1, R.2.2.1, R.2.2.2.1, x8, R.2.2.2.2.2)))))) else (some ((-2), R)))))
set_option maxHeartbeats 4000000 in
set_option maxRecDepth 100000 in
theorem c_X4_reach (l : Launch) (D : va_G) (k : Nat → ClassId) (a : Nat → Nat) (R : RcV) (y1 : Int32) (y2 : Int32) (r : Int32 × RcV) (h : f_X4_reach R y1 y2 = some r) : Met l yX4_reach wsX4_reach rm_X4_reach (va_Pc [.ref (a 0), .int y1, .int y2] (MB D k (rcW k a R))) (QM D (rcW k a R) (rcW k a r.2) (some (.int r.1))) 0 0 (AD (rcW k a R)) := by
  refine met_Mi (by decide) rfl (Nat.le_of_ble_eq_true rfl) ?_
  intro p e s m below meth c Q args ls hx hb hml hown hts hP hK hN hD hl hQ
  have hl : lv_has ls 4 [(0, .ref (a 0)), (1, .int y1), (2, .int y2)] := hl
  have hown : s.vm.findClass RX4 = some m.cls := hown
  unfold f_X4_reach at h
  have hiRX4 : ∀ w ∈ u_ws RX4 TX4 5, w ∈ wsX4_reach := by decide +kernel
  have hiRX1 : ∀ w ∈ u_ws RX1 TX1 8, w ∈ wsX4_reach := by decide +kernel
  have hf12 := hts (.fieldLink RX4 12 "RainCells" "scene" "LRainCells$Scene;") (by decide +kernel)
  have hf80 := hts (.fieldLink RX4 80 "RainCells$Scene" "reaches" "[I") (by decide +kernel)
  have hf27 := hts (.fieldLink RX4 27 "RainCells" "store" "LRainCells$Store;") (by decide +kernel)
  generalize AD (rcW k a R) = A0 at hD hQ
  have hS : va_S A0 s.heap s.heap [] := va_S.rf
  refine lv_aload_n hx hb dX4_reach_0 rfl (lv_at hl 0 rfl) ?_
  refine va_get (D := D) (ci := 4) (v := .ref (a 2)) (C := RX4) (T := TX4) (N := 5) hx hb hts hiRX4 hown hK hP 0 rfl rfl 0 (by decide) hf12 (fun _ h9 => h9) rfl dX4_reach_1 ?_
  refine lv_iload_n hx hb dX4_reach_4 rfl (lv_at hl 1 rfl) ?_
  obtain ⟨x1, h2, h⟩ := bd_s h
  refine cR_V (As := [.int y1]) (rest := []) (n := 1) (v := .int (b2i x1)) hx hb hml hown hts hK hN hl.1 (c_X1_knows l D k (fun j => a (2 + j)) R.1 y1 x1 h2) gX4_reach_X1_knows rfl (by decide +kernel) ⟨⟨rfl, rfl⟩, by decide, by decide⟩ (hP.sub (ws' := sceneW k (fun j => a (2 + j)) R.1) [2, 3, 4, 5, 6, 7, 8, 9] rfl) 0 1 rfl rfl rfl rfl rfl (Nat.le_of_ble_eq_true rfl) dX4_reach_5 ⟨Nat.zero_le _, Nat.zero_le _⟩ ?_
  refine lv_if_ne (tgt := 13) hx hb dX4_reach_8 (by decide) (fun c3 => ?_) (fun c3 => ?_)
  · have h := if_f h c3
    refine lv_iload_n hx hb dX4_reach_13 rfl (lv_at hl 2 rfl) ?_
    refine lv_sipush (v := (-400)) hx hb dX4_reach_14 (by decide) ?_
    refine lv_icmp_lt (tgt := 27) hx hb dX4_reach_17 (by decide) (fun c4 => ?_) (fun c4 => ?_)
    · have h := if_t h c4
      refine lv_bipush (v := (-2)) hx hb dX4_reach_27 (by decide) ?_
      obtain rfl := Option.some.inj h
      exact hQ _ _ _ _ dX4_reach_29 hP hS
    · have h := if_f h c4
      refine lv_iload_n hx hb dX4_reach_20 rfl (lv_at hl 2 rfl) ?_
      refine lv_sipush (v := 400) hx hb dX4_reach_21 (by decide) ?_
      refine lv_icmp_le (tgt := 30) hx hb dX4_reach_24 (by decide) (fun c5 => ?_) (fun c5 => ?_)
      · have h := if_t h c5
        refine lv_aload_n hx hb dX4_reach_30 rfl (lv_at hl 0 rfl) ?_
        refine va_get (D := D) (ci := 4) (v := .ref (a 2)) (C := RX4) (T := TX4) (N := 5) hx hb hts hiRX4 hown hK hP 0 rfl rfl 0 (by decide) hf12 (fun _ h9 => h9) rfl dX4_reach_31 ?_
        refine va_get (D := D) (ci := 1) (v := .ref (a 7)) (C := RX1) (T := TX1) (N := 8) hx hb hts hiRX1 hown hK hP 2 rfl rfl 5 (by decide) hf80 (fun _ h9 => h9) rfl dX4_reach_34 ?_
        refine lv_iload_n hx hb dX4_reach_37 rfl (lv_at hl 1 rfl) ?_
        obtain ⟨c6, h⟩ := gd_s h
        refine va_iald (D := D) hx hb hK hP 7 0 rfl rfl (ix_in c6) dX4_reach_38 ?_
        refine lv_istore_n (lv' := [(3, .int (((R.1).2.2.2.2.2.1) (y1 : Int32).toNatClampNeg)), (0, .ref (a 0)), (1, .int y1), (2, .int y2)]) hx hb dX4_reach_39 rfl hl (by decide) rfl (fun ls hl => ?_)
        refine lv_aload_n hx hb dX4_reach_40 rfl (lv_at hl 1 rfl) ?_
        refine va_get (D := D) (ci := 4) (v := .ref (a 2)) (C := RX4) (T := TX4) (N := 5) hx hb hts hiRX4 hown hK hP 0 rfl rfl 0 (by decide) hf12 (fun _ h9 => h9) rfl dX4_reach_41 ?_
        refine va_get (D := D) (ci := 1) (v := .ref (a 7)) (C := RX1) (T := TX1) (N := 8) hx hb hts hiRX1 hown hK hP 2 rfl rfl 5 (by decide) hf80 (fun _ h9 => h9) rfl dX4_reach_44 ?_
        refine lv_iload_n hx hb dX4_reach_47 rfl (lv_at hl 2 rfl) ?_
        refine lv_iload_n hx hb dX4_reach_48 rfl (lv_at hl 3 rfl) ?_
        obtain ⟨c7, h⟩ := gd_s h
        refine va_iast (D := D) hx hb hK hP hD hS 7 0 rfl rfl (ix_in c7) dX4_reach_49 (fun H locs hP hD hS => ?_)
        have hP : va_P D vwCl (rcW k a (((R.1).1, (R.1).2.1, (R.1).2.2.1, (R.1).2.2.2.1, (R.1).2.2.2.2.1, (upd ((R.1).2.2.2.2.2.1) (y1 : Int32).toNatClampNeg y2), (R.1).2.2.2.2.2.2), R.2)) H := hP
        have hD : va_D A0 (rcW k a (((R.1).1, (R.1).2.1, (R.1).2.2.1, (R.1).2.2.2.1, (R.1).2.2.2.2.1, (upd ((R.1).2.2.2.2.2.1) (y1 : Int32).toNatClampNeg y2), (R.1).2.2.2.2.2.2), R.2)) := hD
        refine lv_aload_n hx hb dX4_reach_50 rfl (lv_at hl 1 rfl) ?_
        refine va_get (D := D) (ci := 4) (v := .ref (a 26)) (C := RX4) (T := TX4) (N := 5) hx hb hts hiRX4 hown hK hP 0 rfl rfl 3 (by decide) hf27 (fun _ h9 => h9) rfl dX4_reach_51 ?_
        obtain ⟨x8, h9, h⟩ := bd_s h
        refine cM_V (As := []) (rest := []) (n := 0) (ov := none) (wc := storeW k (fun j => a (26 + j)) R.2.2.2.2.1) (wc' := storeW k (fun j => a (26 + j)) x8) (w1 := rcW k a (((R.1).1, (R.1).2.1, (R.1).2.2.1, (R.1).2.2.2.1, (R.1).2.2.2.2.1, (upd ((R.1).2.2.2.2.2.1) (y1 : Int32).toNatClampNeg y2), (R.1).2.2.2.2.2.2), R.2.1, R.2.2.1, R.2.2.2.1, x8, R.2.2.2.2.2)) hx hb hml hown hts hK hN hl.1 hP hD hS rcs_st (c_X3_letAllGo l D k (fun j => a (26 + j)) R.2.2.2.2.1 x8 h9) gX4_reach_X3_letAllGo rfl (by decide +kernel) ⟨⟨rfl, rfl⟩, by decide, by decide⟩ 0 3 rfl rfl rfl rfl rfl (Nat.le_of_ble_eq_true rfl) dX4_reach_54 ⟨Nat.zero_le _, Nat.zero_le _⟩ (fun H locs hP hD hS => ?_)
        show W p l e rm_X4_reach s m args below meth c H locs 0 0 Q (F0 m 57 ls [])
        refine lv_iload_n hx hb dX4_reach_57 rfl (lv_at hl 0 rfl) ?_
        refine lv_sipush (v := 1000) hx hb dX4_reach_58 (by decide) ?_
        refine lv_iadd hx hb dX4_reach_61 ?_
        obtain rfl := Option.some.inj h
        exact hQ _ _ _ _ dX4_reach_62 hP hS
      · have h := if_f h c5
        refine lv_bipush (v := (-2)) hx hb dX4_reach_27 (by decide) ?_
        obtain rfl := Option.some.inj h
        exact hQ _ _ _ _ dX4_reach_29 hP hS
  · have h := if_t h c3
    refine lv_iconst (v := (-1)) hx hb dX4_reach_11 (by decide) ?_
    obtain rfl := Option.some.inj h
    exact hQ _ _ _ _ dX4_reach_12 hP hS

abbrev rm_X4_fail : Room := { frames := 2, cells := 0, slots := 0, locals := 42 }
def f_X4_fail_L38 (y1 : Int32) (y3 : Int32) (y4 : Int32) (z : Int32 × RcV) : Option ((Int32 × RcV) ⊕ (RcV)) := if y3 < z.1 then (some (.inr z.2)) else ((if y4 = 1 then (some 1) else (some 0) : Option (Int32)).bind (fun x9 => (f_X1_putOut ((z.2).1) y1 z.1 x9).bind (fun x12 => some (.inl ((z.1 + 1), (x12, (z.2).2))))))
def f_X4_fail (R : RcV) (y1 : Int32) (y2 : Int32) (y3 : Int32) (y4 : Int32) : Option (Int32 × RcV) := (f_X1_knows R.1 y1).bind (fun x1 => if (b2i x1) = 0 then (some ((-1), R)) else ((f_X4_areDays y2 y3).bind (fun x4 => if (b2i x4) = 0 then (some ((-2), R)) else (if y4 = 0 then ((lp (f_X4_fail_L38 y1 y3 y4) fu (y2, R)).bind (fun x8 => (f_X1_daysOut x8.1 y1).bind (fun x15 => some (x15, x8)))) else (if y4 = 1 then ((lp (f_X4_fail_L38 y1 y3 y4) fu (y2, R)).bind (fun x26 => (f_X1_daysOut x26.1 y1).bind (fun x33 => some (x33, x26)))) else (some ((-2), R)))))))
set_option maxHeartbeats 4000000 in
set_option maxRecDepth 100000 in
theorem c_X4_fail (l : Launch) (D : va_G) (k : Nat → ClassId) (a : Nat → Nat) (R : RcV) (y1 : Int32) (y2 : Int32) (y3 : Int32) (y4 : Int32) (r : Int32 × RcV) (h : f_X4_fail R y1 y2 y3 y4 = some r) : Met l yX4_fail wsX4_fail rm_X4_fail (va_Pc [.ref (a 0), .int y1, .int y2, .int y3, .int y4] (MB D k (rcW k a R))) (QM D (rcW k a R) (rcW k a r.2) (some (.int r.1))) 0 0 (AD (rcW k a R)) := by
  refine met_Mi (by decide) rfl (Nat.le_of_ble_eq_true rfl) ?_
  intro p e s m below meth c Q args ls hx hb hml hown hts hP hK hN hD hl hQ
  have hl : lv_has ls 6 [(0, .ref (a 0)), (1, .int y1), (2, .int y2), (3, .int y3), (4, .int y4)] := hl
  have hown : s.vm.findClass RX4 = some m.cls := hown
  unfold f_X4_fail at h
  have hiRX4 : ∀ w ∈ u_ws RX4 TX4 5, w ∈ wsX4_fail := by decide +kernel
  have hf12 := hts (.fieldLink RX4 12 "RainCells" "scene" "LRainCells$Scene;") (by decide +kernel)
  generalize AD (rcW k a R) = A0 at hD hQ
  have hS : va_S A0 s.heap s.heap [] := va_S.rf
  refine lv_aload_n hx hb dX4_fail_0 rfl (lv_at hl 0 rfl) ?_
  refine va_get (D := D) (ci := 4) (v := .ref (a 2)) (C := RX4) (T := TX4) (N := 5) hx hb hts hiRX4 hown hK hP 0 rfl rfl 0 (by decide) hf12 (fun _ h9 => h9) rfl dX4_fail_1 ?_
  refine lv_iload_n hx hb dX4_fail_4 rfl (lv_at hl 1 rfl) ?_
  obtain ⟨x1, h2, h⟩ := bd_s h
  refine cR_V (As := [.int y1]) (rest := []) (n := 1) (v := .int (b2i x1)) hx hb hml hown hts hK hN hl.1 (c_X1_knows l D k (fun j => a (2 + j)) R.1 y1 x1 h2) gX4_fail_X1_knows rfl (by decide +kernel) ⟨⟨rfl, rfl⟩, by decide, by decide⟩ (hP.sub (ws' := sceneW k (fun j => a (2 + j)) R.1) [2, 3, 4, 5, 6, 7, 8, 9] rfl) 0 1 rfl rfl rfl rfl rfl (Nat.le_of_ble_eq_true rfl) dX4_fail_5 ⟨Nat.zero_le _, Nat.zero_le _⟩ ?_
  refine lv_if_ne (tgt := 13) hx hb dX4_fail_8 (by decide) (fun c3 => ?_) (fun c3 => ?_)
  · have h := if_f h c3
    refine lv_iload_n hx hb dX4_fail_13 rfl (lv_at hl 2 rfl) ?_
    refine lv_iload_n hx hb dX4_fail_14 rfl (lv_at hl 3 rfl) ?_
    obtain ⟨x4, h5, h⟩ := bd_s h
    refine cR_S (As := [.int y2, .int y3]) (rest := []) (n := 2) (v := .int (b2i x4)) hx hb hml hown hts hK hN hl.1 (c_X4_areDays l D k y2 y3 x4 h5) gX4_fail_X4_areDays rfl (by decide +kernel) ⟨⟨rfl, rfl⟩, by decide, by decide⟩ va_P_nil rfl rfl (Nat.le_of_ble_eq_true rfl) dX4_fail_15 ⟨Nat.zero_le _, Nat.zero_le _⟩ ?_
    refine lv_if_eq (tgt := 32) hx hb dX4_fail_18 (by decide) (fun c6 => ?_) (fun c6 => ?_)
    · have h := if_t h c6
      refine lv_bipush (v := (-2)) hx hb dX4_fail_32 (by decide) ?_
      obtain rfl := Option.some.inj h
      exact hQ _ _ _ _ dX4_fail_34 hP hS
    · have h := if_f h c6
      refine lv_iload hx hb dX4_fail_21 (lv_at hl 4 rfl) ?_
      refine lv_if_eq (tgt := 35) hx hb dX4_fail_23 (by decide) (fun c7 => ?_) (fun c7 => ?_)
      · have h := if_t h c7
        refine lv_iload_n hx hb dX4_fail_35 rfl (lv_at hl 2 rfl) ?_
        refine lv_istore (lv' := [(5, .int y2), (0, .ref (a 0)), (1, .int y1), (2, .int y2), (3, .int y3), (4, .int y4)]) hx hb dX4_fail_36 hl (by decide) rfl (fun ls hl => ?_)
        obtain ⟨x8, h9, h⟩ := bd_s h
        have K24 : ∀ (ls : Array Slot) (H : Heap) (locs : List Loc), lv_has ls 6 [(0, .ref (a 0)), (1, .int y1)] → va_P D vwCl (rcW k a x8) H → va_D A0 (rcW k a x8) → va_S A0 s.heap H locs → W p l e rm_X4_fail s m args below meth c H locs 0 0 Q (F0 m 71 ls []) := by
          intro ls H locs hl hP hD hS
          refine lv_aload_n hx hb dX4_fail_71 rfl (lv_at hl 0 rfl) ?_
          refine va_get (D := D) (ci := 4) (v := .ref (a 2)) (C := RX4) (T := TX4) (N := 5) hx hb hts hiRX4 hown hK hP 0 rfl rfl 0 (by decide) hf12 (fun _ h9 => h9) rfl dX4_fail_72 ?_
          refine lv_iload_n hx hb dX4_fail_75 rfl (lv_at hl 1 rfl) ?_
          obtain ⟨x15, h16, h⟩ := bd_s h
          refine cR_V (As := [.int y1]) (rest := []) (n := 1) (v := .int x15) hx hb hml hown hts hK hN hl.1 (c_X1_daysOut l D k (fun j => a (2 + j)) x8.1 y1 x15 h16) gX4_fail_X1_daysOut rfl (by decide +kernel) ⟨⟨rfl, rfl⟩, by decide, by decide⟩ (hP.sub (ws' := sceneW k (fun j => a (2 + j)) x8.1) [2, 3, 4, 5, 6, 7, 8, 9] rfl) 0 1 rfl rfl rfl rfl rfl (Nat.le_of_ble_eq_true rfl) dX4_fail_76 ⟨Nat.zero_le _, Nat.zero_le _⟩ ?_
          obtain rfl := Option.some.inj h
          exact hQ _ _ _ _ dX4_fail_79 hP hS
        refine lp_W (P := fun z10 => ∀ (ls : Array Slot) (H : Heap) (locs : List Loc), lv_has ls 6 [(0, .ref (a 0)), (1, .int y1), (3, .int y3), (4, .int y4), (5, .int z10.1)] → va_P D vwCl (rcW k a z10.2) H → va_D A0 (rcW k a z10.2) → va_S A0 s.heap H locs → W p l e rm_X4_fail s m args below meth c H locs 0 0 Q (F0 m 38 ls [])) (E := fun x8 => ∀ (ls : Array Slot) (H : Heap) (locs : List Loc), lv_has ls 6 [(0, .ref (a 0)), (1, .int y1)] → va_P D vwCl (rcW k a x8) H → va_D A0 (rcW k a x8) → va_S A0 s.heap H locs → W p l e rm_X4_fail s m args below meth c H locs 0 0 Q (F0 m 71 ls [])) (fun z10 xx12 hB11 kI13 kE14 => ?_) _ _ _ h9 K24 ls s.heap [] (lv_sub hl [1, 2, 4, 5, 0] rfl) hP hD hS
        intro ls H locs hl hP hD hS
        unfold f_X4_fail_L38 at hB11
        refine lv_iload hx hb dX4_fail_38 (lv_at hl 4 rfl) ?_
        refine lv_iload_n hx hb dX4_fail_40 rfl (lv_at hl 2 rfl) ?_
        refine lv_icmp_gt (tgt := 71) hx hb dX4_fail_41 (by decide) (fun c17 => ?_) (fun c17 => ?_)
        · have hB11 := if_t hB11 c17
          exact kE14 _ (Option.some.inj hB11).symm ls H locs (lv_sub hl [0, 1] rfl) hP hD hS
        · have hB11 := if_f hB11 c17
          refine lv_aload_n hx hb dX4_fail_44 rfl (lv_at hl 0 rfl) ?_
          refine va_get (D := D) (ci := 4) (v := .ref (a 2)) (C := RX4) (T := TX4) (N := 5) hx hb hts hiRX4 hown hK hP 0 rfl rfl 0 (by decide) hf12 (fun _ h9 => h9) rfl dX4_fail_45 ?_
          refine lv_iload_n hx hb dX4_fail_48 rfl (lv_at hl 1 rfl) ?_
          refine lv_iload hx hb dX4_fail_49 (lv_at hl 4 rfl) ?_
          refine lv_iload hx hb dX4_fail_51 (lv_at hl 3 rfl) ?_
          refine lv_iconst (v := 1) hx hb dX4_fail_53 (by decide) ?_
          obtain ⟨x18, h19, hB11⟩ := bd_s hB11
          have K20 : W p l e rm_X4_fail s m args below meth c H locs 0 0 Q (F0 m 62 ls [.int x18, .int z10.1, .int y1, .ref (a 2)]) := by
            obtain ⟨x21, h22, hB11⟩ := bd_s hB11
            refine cM_V (As := [.int y1, .int z10.1, .int x18]) (rest := []) (n := 3) (ov := none) (wc := sceneW k (fun j => a (2 + j)) ((z10.2).1)) (wc' := sceneW k (fun j => a (2 + j)) x21) (w1 := rcW k a (x21, (z10.2).2)) hx hb hml hown hts hK hN hl.1 hP hD hS rcs_sc (c_X1_putOut l D k (fun j => a (2 + j)) ((z10.2).1) y1 z10.1 x18 x21 h22) gX4_fail_X1_putOut rfl (by decide +kernel) ⟨⟨rfl, rfl⟩, by decide, by decide⟩ 0 1 rfl rfl rfl rfl rfl (Nat.le_of_ble_eq_true rfl) dX4_fail_62 ⟨Nat.zero_le _, Nat.zero_le _⟩ (fun H locs hP hD hS => ?_)
            show W p l e rm_X4_fail s m args below meth c H locs 0 0 Q (F0 m 65 ls [])
            refine lv_iinc (v := (z10.1 + 1)) (lv' := [(5, .int (z10.1 + 1)), (0, .ref (a 0)), (1, .int y1), (3, .int y3), (4, .int y4)]) hx hb dX4_fail_65 hl (k := 4) rfl rfl (by decide) rfl (fun ls hl => ?_)
            refine lv_goto (tgt := 38) hx hb dX4_fail_68 (by decide) ?_
            exact kI13 _ (Option.some.inj hB11).symm ls H locs (lv_sub hl [1, 2, 3, 4, 0] rfl) hP hD hS
          refine lv_icmp_ne (tgt := 61) hx hb dX4_fail_54 (by decide) (fun c23 => ?_) (fun c23 => ?_)
          · have h19 := if_f h19 c23
            refine lv_iconst (v := 0) hx hb dX4_fail_61 (by decide) ?_
            obtain rfl := Option.some.inj h19
            exact K20
          · have h19 := if_t h19 c23
            refine lv_iconst (v := 1) hx hb dX4_fail_57 (by decide) ?_
            refine lv_goto (tgt := 62) hx hb dX4_fail_58 (by decide) ?_
            obtain rfl := Option.some.inj h19
            exact K20
      · have h := if_f h c7
        refine lv_iload hx hb dX4_fail_26 (lv_at hl 4 rfl) ?_
        refine lv_iconst (v := 1) hx hb dX4_fail_28 (by decide) ?_
        refine lv_icmp_eq (tgt := 35) hx hb dX4_fail_29 (by decide) (fun c25 => ?_) (fun c25 => ?_)
        · have h := if_t h c25
          refine lv_iload_n hx hb dX4_fail_35 rfl (lv_at hl 2 rfl) ?_
          refine lv_istore (lv' := [(5, .int y2), (0, .ref (a 0)), (1, .int y1), (2, .int y2), (3, .int y3), (4, .int y4)]) hx hb dX4_fail_36 hl (by decide) rfl (fun ls hl => ?_)
          obtain ⟨x26, h27, h⟩ := bd_s h
          have K42 : ∀ (ls : Array Slot) (H : Heap) (locs : List Loc), lv_has ls 6 [(0, .ref (a 0)), (1, .int y1)] → va_P D vwCl (rcW k a x26) H → va_D A0 (rcW k a x26) → va_S A0 s.heap H locs → W p l e rm_X4_fail s m args below meth c H locs 0 0 Q (F0 m 71 ls []) := by
            intro ls H locs hl hP hD hS
            refine lv_aload_n hx hb dX4_fail_71 rfl (lv_at hl 0 rfl) ?_
            refine va_get (D := D) (ci := 4) (v := .ref (a 2)) (C := RX4) (T := TX4) (N := 5) hx hb hts hiRX4 hown hK hP 0 rfl rfl 0 (by decide) hf12 (fun _ h9 => h9) rfl dX4_fail_72 ?_
            refine lv_iload_n hx hb dX4_fail_75 rfl (lv_at hl 1 rfl) ?_
            obtain ⟨x33, h34, h⟩ := bd_s h
            refine cR_V (As := [.int y1]) (rest := []) (n := 1) (v := .int x33) hx hb hml hown hts hK hN hl.1 (c_X1_daysOut l D k (fun j => a (2 + j)) x26.1 y1 x33 h34) gX4_fail_X1_daysOut rfl (by decide +kernel) ⟨⟨rfl, rfl⟩, by decide, by decide⟩ (hP.sub (ws' := sceneW k (fun j => a (2 + j)) x26.1) [2, 3, 4, 5, 6, 7, 8, 9] rfl) 0 1 rfl rfl rfl rfl rfl (Nat.le_of_ble_eq_true rfl) dX4_fail_76 ⟨Nat.zero_le _, Nat.zero_le _⟩ ?_
            obtain rfl := Option.some.inj h
            exact hQ _ _ _ _ dX4_fail_79 hP hS
          refine lp_W (P := fun z28 => ∀ (ls : Array Slot) (H : Heap) (locs : List Loc), lv_has ls 6 [(0, .ref (a 0)), (1, .int y1), (3, .int y3), (4, .int y4), (5, .int z28.1)] → va_P D vwCl (rcW k a z28.2) H → va_D A0 (rcW k a z28.2) → va_S A0 s.heap H locs → W p l e rm_X4_fail s m args below meth c H locs 0 0 Q (F0 m 38 ls [])) (E := fun x26 => ∀ (ls : Array Slot) (H : Heap) (locs : List Loc), lv_has ls 6 [(0, .ref (a 0)), (1, .int y1)] → va_P D vwCl (rcW k a x26) H → va_D A0 (rcW k a x26) → va_S A0 s.heap H locs → W p l e rm_X4_fail s m args below meth c H locs 0 0 Q (F0 m 71 ls [])) (fun z28 xx30 hB29 kI31 kE32 => ?_) _ _ _ h27 K42 ls s.heap [] (lv_sub hl [1, 2, 4, 5, 0] rfl) hP hD hS
          intro ls H locs hl hP hD hS
          unfold f_X4_fail_L38 at hB29
          refine lv_iload hx hb dX4_fail_38 (lv_at hl 4 rfl) ?_
          refine lv_iload_n hx hb dX4_fail_40 rfl (lv_at hl 2 rfl) ?_
          refine lv_icmp_gt (tgt := 71) hx hb dX4_fail_41 (by decide) (fun c35 => ?_) (fun c35 => ?_)
          · have hB29 := if_t hB29 c35
            exact kE32 _ (Option.some.inj hB29).symm ls H locs (lv_sub hl [0, 1] rfl) hP hD hS
          · have hB29 := if_f hB29 c35
            refine lv_aload_n hx hb dX4_fail_44 rfl (lv_at hl 0 rfl) ?_
            refine va_get (D := D) (ci := 4) (v := .ref (a 2)) (C := RX4) (T := TX4) (N := 5) hx hb hts hiRX4 hown hK hP 0 rfl rfl 0 (by decide) hf12 (fun _ h9 => h9) rfl dX4_fail_45 ?_
            refine lv_iload_n hx hb dX4_fail_48 rfl (lv_at hl 1 rfl) ?_
            refine lv_iload hx hb dX4_fail_49 (lv_at hl 4 rfl) ?_
            refine lv_iload hx hb dX4_fail_51 (lv_at hl 3 rfl) ?_
            refine lv_iconst (v := 1) hx hb dX4_fail_53 (by decide) ?_
            obtain ⟨x36, h37, hB29⟩ := bd_s hB29
            have K38 : W p l e rm_X4_fail s m args below meth c H locs 0 0 Q (F0 m 62 ls [.int x36, .int z28.1, .int y1, .ref (a 2)]) := by
              obtain ⟨x39, h40, hB29⟩ := bd_s hB29
              refine cM_V (As := [.int y1, .int z28.1, .int x36]) (rest := []) (n := 3) (ov := none) (wc := sceneW k (fun j => a (2 + j)) ((z28.2).1)) (wc' := sceneW k (fun j => a (2 + j)) x39) (w1 := rcW k a (x39, (z28.2).2)) hx hb hml hown hts hK hN hl.1 hP hD hS rcs_sc (c_X1_putOut l D k (fun j => a (2 + j)) ((z28.2).1) y1 z28.1 x36 x39 h40) gX4_fail_X1_putOut rfl (by decide +kernel) ⟨⟨rfl, rfl⟩, by decide, by decide⟩ 0 1 rfl rfl rfl rfl rfl (Nat.le_of_ble_eq_true rfl) dX4_fail_62 ⟨Nat.zero_le _, Nat.zero_le _⟩ (fun H locs hP hD hS => ?_)
              show W p l e rm_X4_fail s m args below meth c H locs 0 0 Q (F0 m 65 ls [])
              refine lv_iinc (v := (z28.1 + 1)) (lv' := [(5, .int (z28.1 + 1)), (0, .ref (a 0)), (1, .int y1), (3, .int y3), (4, .int y4)]) hx hb dX4_fail_65 hl (k := 4) rfl rfl (by decide) rfl (fun ls hl => ?_)
              refine lv_goto (tgt := 38) hx hb dX4_fail_68 (by decide) ?_
              exact kI31 _ (Option.some.inj hB29).symm ls H locs (lv_sub hl [1, 2, 3, 4, 0] rfl) hP hD hS
            refine lv_icmp_ne (tgt := 61) hx hb dX4_fail_54 (by decide) (fun c41 => ?_) (fun c41 => ?_)
            · have h37 := if_f h37 c41
              refine lv_iconst (v := 0) hx hb dX4_fail_61 (by decide) ?_
              obtain rfl := Option.some.inj h37
              exact K38
            · have h37 := if_t h37 c41
              refine lv_iconst (v := 1) hx hb dX4_fail_57 (by decide) ?_
              refine lv_goto (tgt := 62) hx hb dX4_fail_58 (by decide) ?_
              obtain rfl := Option.some.inj h37
              exact K38
        · have h := if_f h c25
          refine lv_bipush (v := (-2)) hx hb dX4_fail_32 (by decide) ?_
          obtain rfl := Option.some.inj h
          exact hQ _ _ _ _ dX4_fail_34 hP hS
  · have h := if_t h c3
    refine lv_iconst (v := (-1)) hx hb dX4_fail_11 (by decide) ?_
    obtain rfl := Option.some.inj h
    exact hQ _ _ _ _ dX4_fail_12 hP hS

abbrev rm_X4_rain : Room := { frames := 1, cells := 0, slots := 0, locals := 23 }
def f_X4_rain (R : RcV) (y1 : Int32) (y2 : Int32) (y3 : Int32) : Option (Int32 × RcV) := (f_X1_knows R.1 y1).bind (fun x1 => if (b2i x1) = 0 then (some ((-1), R)) else ((f_X4_isDay y2).bind (fun x4 => if (b2i x4) = 0 then (some ((-2), R)) else (if y3 = (-6) then ((f_X1_readingOf R.1 y1 y2).bind (fun x8 => (f_X1_putReading R.1 y1 y2 y3).bind (fun x10 => some (x8, (x10, R.2))))) else (if y3 < 0 then (some ((-2), R)) else (if y3 ≤ 9999 then ((f_X1_readingOf R.1 y1 y2).bind (fun x14 => (f_X1_putReading R.1 y1 y2 y3).bind (fun x16 => some (x14, (x16, R.2))))) else (some ((-2), R))))))))
set_option maxHeartbeats 4000000 in
set_option maxRecDepth 100000 in
theorem c_X4_rain (l : Launch) (D : va_G) (k : Nat → ClassId) (a : Nat → Nat) (R : RcV) (y1 : Int32) (y2 : Int32) (y3 : Int32) (r : Int32 × RcV) (h : f_X4_rain R y1 y2 y3 = some r) : Met l yX4_rain wsX4_rain rm_X4_rain (va_Pc [.ref (a 0), .int y1, .int y2, .int y3] (MB D k (rcW k a R))) (QM D (rcW k a R) (rcW k a r.2) (some (.int r.1))) 0 0 (AD (rcW k a R)) := by
  refine met_Mi (by decide) rfl (Nat.le_of_ble_eq_true rfl) ?_
  intro p e s m below meth c Q args ls hx hb hml hown hts hP hK hN hD hl hQ
  have hl : lv_has ls 5 [(0, .ref (a 0)), (1, .int y1), (2, .int y2), (3, .int y3)] := hl
  have hown : s.vm.findClass RX4 = some m.cls := hown
  unfold f_X4_rain at h
  have hiRX4 : ∀ w ∈ u_ws RX4 TX4 5, w ∈ wsX4_rain := by decide +kernel
  have hf12 := hts (.fieldLink RX4 12 "RainCells" "scene" "LRainCells$Scene;") (by decide +kernel)
  generalize AD (rcW k a R) = A0 at hD hQ
  have hS : va_S A0 s.heap s.heap [] := va_S.rf
  refine lv_aload_n hx hb dX4_rain_0 rfl (lv_at hl 0 rfl) ?_
  refine va_get (D := D) (ci := 4) (v := .ref (a 2)) (C := RX4) (T := TX4) (N := 5) hx hb hts hiRX4 hown hK hP 0 rfl rfl 0 (by decide) hf12 (fun _ h9 => h9) rfl dX4_rain_1 ?_
  refine lv_iload_n hx hb dX4_rain_4 rfl (lv_at hl 1 rfl) ?_
  obtain ⟨x1, h2, h⟩ := bd_s h
  refine cR_V (As := [.int y1]) (rest := []) (n := 1) (v := .int (b2i x1)) hx hb hml hown hts hK hN hl.1 (c_X1_knows l D k (fun j => a (2 + j)) R.1 y1 x1 h2) gX4_rain_X1_knows rfl (by decide +kernel) ⟨⟨rfl, rfl⟩, by decide, by decide⟩ (hP.sub (ws' := sceneW k (fun j => a (2 + j)) R.1) [2, 3, 4, 5, 6, 7, 8, 9] rfl) 0 1 rfl rfl rfl rfl rfl (Nat.le_of_ble_eq_true rfl) dX4_rain_5 ⟨Nat.zero_le _, Nat.zero_le _⟩ ?_
  refine lv_if_ne (tgt := 13) hx hb dX4_rain_8 (by decide) (fun c3 => ?_) (fun c3 => ?_)
  · have h := if_f h c3
    refine lv_iload_n hx hb dX4_rain_13 rfl (lv_at hl 2 rfl) ?_
    obtain ⟨x4, h5, h⟩ := bd_s h
    refine cR_S (As := [.int y2]) (rest := []) (n := 1) (v := .int (b2i x4)) hx hb hml hown hts hK hN hl.1 (c_X4_isDay l D k y2 x4 h5) gX4_rain_X4_isDay rfl (by decide +kernel) ⟨⟨rfl, rfl⟩, by decide, by decide⟩ va_P_nil rfl rfl (Nat.le_of_ble_eq_true rfl) dX4_rain_14 ⟨Nat.zero_le _, Nat.zero_le _⟩ ?_
    refine lv_if_eq (tgt := 37) hx hb dX4_rain_17 (by decide) (fun c6 => ?_) (fun c6 => ?_)
    · have h := if_t h c6
      refine lv_bipush (v := (-2)) hx hb dX4_rain_37 (by decide) ?_
      obtain rfl := Option.some.inj h
      exact hQ _ _ _ _ dX4_rain_39 hP hS
    · have h := if_f h c6
      refine lv_iload_n hx hb dX4_rain_20 rfl (lv_at hl 3 rfl) ?_
      refine lv_bipush (v := (-6)) hx hb dX4_rain_21 (by decide) ?_
      refine lv_icmp_eq (tgt := 40) hx hb dX4_rain_23 (by decide) (fun c7 => ?_) (fun c7 => ?_)
      · have h := if_t h c7
        refine lv_aload_n hx hb dX4_rain_40 rfl (lv_at hl 0 rfl) ?_
        refine va_get (D := D) (ci := 4) (v := .ref (a 2)) (C := RX4) (T := TX4) (N := 5) hx hb hts hiRX4 hown hK hP 0 rfl rfl 0 (by decide) hf12 (fun _ h9 => h9) rfl dX4_rain_41 ?_
        refine lv_iload_n hx hb dX4_rain_44 rfl (lv_at hl 1 rfl) ?_
        refine lv_iload_n hx hb dX4_rain_45 rfl (lv_at hl 2 rfl) ?_
        obtain ⟨x8, h9, h⟩ := bd_s h
        refine cR_V (As := [.int y1, .int y2]) (rest := []) (n := 2) (v := .int x8) hx hb hml hown hts hK hN hl.1 (c_X1_readingOf l D k (fun j => a (2 + j)) R.1 y1 y2 x8 h9) gX4_rain_X1_readingOf rfl (by decide +kernel) ⟨⟨rfl, rfl⟩, by decide, by decide⟩ (hP.sub (ws' := sceneW k (fun j => a (2 + j)) R.1) [2, 3, 4, 5, 6, 7, 8, 9] rfl) 0 1 rfl rfl rfl rfl rfl (Nat.le_of_ble_eq_true rfl) dX4_rain_46 ⟨Nat.zero_le _, Nat.zero_le _⟩ ?_
        refine lv_istore (lv' := [(4, .int x8), (0, .ref (a 0)), (1, .int y1), (2, .int y2), (3, .int y3)]) hx hb dX4_rain_49 hl (by decide) rfl (fun ls hl => ?_)
        refine lv_aload_n hx hb dX4_rain_51 rfl (lv_at hl 1 rfl) ?_
        refine va_get (D := D) (ci := 4) (v := .ref (a 2)) (C := RX4) (T := TX4) (N := 5) hx hb hts hiRX4 hown hK hP 0 rfl rfl 0 (by decide) hf12 (fun _ h9 => h9) rfl dX4_rain_52 ?_
        refine lv_iload_n hx hb dX4_rain_55 rfl (lv_at hl 2 rfl) ?_
        refine lv_iload_n hx hb dX4_rain_56 rfl (lv_at hl 3 rfl) ?_
        refine lv_iload_n hx hb dX4_rain_57 rfl (lv_at hl 4 rfl) ?_
        obtain ⟨x10, h11, h⟩ := bd_s h
        refine cM_V (As := [.int y1, .int y2, .int y3]) (rest := []) (n := 3) (ov := none) (wc := sceneW k (fun j => a (2 + j)) R.1) (wc' := sceneW k (fun j => a (2 + j)) x10) (w1 := rcW k a (x10, R.2)) hx hb hml hown hts hK hN hl.1 hP hD hS rcs_sc (c_X1_putReading l D k (fun j => a (2 + j)) R.1 y1 y2 y3 x10 h11) gX4_rain_X1_putReading rfl (by decide +kernel) ⟨⟨rfl, rfl⟩, by decide, by decide⟩ 0 1 rfl rfl rfl rfl rfl (Nat.le_of_ble_eq_true rfl) dX4_rain_58 ⟨Nat.zero_le _, Nat.zero_le _⟩ (fun H locs hP hD hS => ?_)
        show W p l e rm_X4_rain s m args below meth c H locs 0 0 Q (F0 m 61 ls [])
        refine lv_iload hx hb dX4_rain_61 (lv_at hl 0 rfl) ?_
        obtain rfl := Option.some.inj h
        exact hQ _ _ _ _ dX4_rain_63 hP hS
      · have h := if_f h c7
        refine lv_iload_n hx hb dX4_rain_26 rfl (lv_at hl 3 rfl) ?_
        refine lv_if_lt (tgt := 37) hx hb dX4_rain_27 (by decide) (fun c12 => ?_) (fun c12 => ?_)
        · have h := if_t h c12
          refine lv_bipush (v := (-2)) hx hb dX4_rain_37 (by decide) ?_
          obtain rfl := Option.some.inj h
          exact hQ _ _ _ _ dX4_rain_39 hP hS
        · have h := if_f h c12
          refine lv_iload_n hx hb dX4_rain_30 rfl (lv_at hl 3 rfl) ?_
          refine lv_sipush (v := 9999) hx hb dX4_rain_31 (by decide) ?_
          refine lv_icmp_le (tgt := 40) hx hb dX4_rain_34 (by decide) (fun c13 => ?_) (fun c13 => ?_)
          · have h := if_t h c13
            refine lv_aload_n hx hb dX4_rain_40 rfl (lv_at hl 0 rfl) ?_
            refine va_get (D := D) (ci := 4) (v := .ref (a 2)) (C := RX4) (T := TX4) (N := 5) hx hb hts hiRX4 hown hK hP 0 rfl rfl 0 (by decide) hf12 (fun _ h9 => h9) rfl dX4_rain_41 ?_
            refine lv_iload_n hx hb dX4_rain_44 rfl (lv_at hl 1 rfl) ?_
            refine lv_iload_n hx hb dX4_rain_45 rfl (lv_at hl 2 rfl) ?_
            obtain ⟨x14, h15, h⟩ := bd_s h
            refine cR_V (As := [.int y1, .int y2]) (rest := []) (n := 2) (v := .int x14) hx hb hml hown hts hK hN hl.1 (c_X1_readingOf l D k (fun j => a (2 + j)) R.1 y1 y2 x14 h15) gX4_rain_X1_readingOf rfl (by decide +kernel) ⟨⟨rfl, rfl⟩, by decide, by decide⟩ (hP.sub (ws' := sceneW k (fun j => a (2 + j)) R.1) [2, 3, 4, 5, 6, 7, 8, 9] rfl) 0 1 rfl rfl rfl rfl rfl (Nat.le_of_ble_eq_true rfl) dX4_rain_46 ⟨Nat.zero_le _, Nat.zero_le _⟩ ?_
            refine lv_istore (lv' := [(4, .int x14), (0, .ref (a 0)), (1, .int y1), (2, .int y2), (3, .int y3)]) hx hb dX4_rain_49 hl (by decide) rfl (fun ls hl => ?_)
            refine lv_aload_n hx hb dX4_rain_51 rfl (lv_at hl 1 rfl) ?_
            refine va_get (D := D) (ci := 4) (v := .ref (a 2)) (C := RX4) (T := TX4) (N := 5) hx hb hts hiRX4 hown hK hP 0 rfl rfl 0 (by decide) hf12 (fun _ h9 => h9) rfl dX4_rain_52 ?_
            refine lv_iload_n hx hb dX4_rain_55 rfl (lv_at hl 2 rfl) ?_
            refine lv_iload_n hx hb dX4_rain_56 rfl (lv_at hl 3 rfl) ?_
            refine lv_iload_n hx hb dX4_rain_57 rfl (lv_at hl 4 rfl) ?_
            obtain ⟨x16, h17, h⟩ := bd_s h
            refine cM_V (As := [.int y1, .int y2, .int y3]) (rest := []) (n := 3) (ov := none) (wc := sceneW k (fun j => a (2 + j)) R.1) (wc' := sceneW k (fun j => a (2 + j)) x16) (w1 := rcW k a (x16, R.2)) hx hb hml hown hts hK hN hl.1 hP hD hS rcs_sc (c_X1_putReading l D k (fun j => a (2 + j)) R.1 y1 y2 y3 x16 h17) gX4_rain_X1_putReading rfl (by decide +kernel) ⟨⟨rfl, rfl⟩, by decide, by decide⟩ 0 1 rfl rfl rfl rfl rfl (Nat.le_of_ble_eq_true rfl) dX4_rain_58 ⟨Nat.zero_le _, Nat.zero_le _⟩ (fun H locs hP hD hS => ?_)
            show W p l e rm_X4_rain s m args below meth c H locs 0 0 Q (F0 m 61 ls [])
            refine lv_iload hx hb dX4_rain_61 (lv_at hl 0 rfl) ?_
            obtain rfl := Option.some.inj h
            exact hQ _ _ _ _ dX4_rain_63 hP hS
          · have h := if_f h c13
            refine lv_bipush (v := (-2)) hx hb dX4_rain_37 (by decide) ?_
            obtain rfl := Option.some.inj h
            exact hQ _ _ _ _ dX4_rain_39 hP hS
  · have h := if_t h c3
    refine lv_iconst (v := (-1)) hx hb dX4_rain_11 (by decide) ?_
    obtain rfl := Option.some.inj h
    exact hQ _ _ _ _ dX4_rain_12 hP hS

abbrev rm_X4_of : Room := { frames := 2, cells := 0, slots := 0, locals := 45 }
def f_X4_of (R : RcV) (y1 : Int32) (y2 : Int32) : Option (Int32) := (f_X1_knows R.1 y1).bind (fun x1 => if (b2i x1) = 0 then (some (-1)) else (if y2 = 0 then (gd (ix y1 8) (some ((((R.1).2.2.2.1) (y1 : Int32).toNatClampNeg) + 1000))) else (if y2 = 1 then (gd (ix y1 8) (some ((((R.1).2.2.2.2.1) (y1 : Int32).toNatClampNeg) + 1000))) else (if y2 = 2 then (gd (ix y1 8) (some ((((R.1).2.2.2.2.2.1) (y1 : Int32).toNatClampNeg) + 1000))) else (if y2 = 3 then ((f_X1_daysOut R.1 y1).bind (fun x11 => some x11)) else (if y2 = 4 then ((f_X1_daysRead R.1 y1).bind (fun x14 => some x14)) else (some (-2))))))))
set_option maxHeartbeats 4000000 in
set_option maxRecDepth 100000 in
theorem c_X4_of (l : Launch) (D : va_G) (k : Nat → ClassId) (a : Nat → Nat) (R : RcV) (y1 : Int32) (y2 : Int32) (r : Int32) (h : f_X4_of R y1 y2 = some r) : Met l yX4_of wsX4_of rm_X4_of (va_Pc [.ref (a 0), .int y1, .int y2] (RB D k (rcW k a R))) (QR (some (.int r))) 0 0 (fun _ => False) := by
  refine met_Ri (by decide) rfl (Nat.le_of_ble_eq_true rfl) ?_
  intro p e s m below meth c Q args ls hx hb hml hown hts hP hK hN hl hQ
  have hl : lv_has ls 3 [(0, .ref (a 0)), (1, .int y1), (2, .int y2)] := hl
  have hown : s.vm.findClass RX4 = some m.cls := hown
  unfold f_X4_of at h
  have hiRX4 : ∀ w ∈ u_ws RX4 TX4 5, w ∈ wsX4_of := by decide +kernel
  have hiRX1 : ∀ w ∈ u_ws RX1 TX1 8, w ∈ wsX4_of := by decide +kernel
  have hf12 := hts (.fieldLink RX4 12 "RainCells" "scene" "LRainCells$Scene;") (by decide +kernel)
  have hf66 := hts (.fieldLink RX4 66 "RainCells$Scene" "placeX" "[I") (by decide +kernel)
  have hf69 := hts (.fieldLink RX4 69 "RainCells$Scene" "placeY" "[I") (by decide +kernel)
  have hf80 := hts (.fieldLink RX4 80 "RainCells$Scene" "reaches" "[I") (by decide +kernel)
  refine lv_aload_n hx hb dX4_of_0 rfl (lv_at hl 0 rfl) ?_
  refine va_get (D := D) (ci := 4) (v := .ref (a 2)) (C := RX4) (T := TX4) (N := 5) hx hb hts hiRX4 hown hK hP 0 rfl rfl 0 (by decide) hf12 (fun _ h9 => h9) rfl dX4_of_1 ?_
  refine lv_iload_n hx hb dX4_of_4 rfl (lv_at hl 1 rfl) ?_
  obtain ⟨x1, h2, h⟩ := bd_s h
  refine cR_V (As := [.int y1]) (rest := []) (n := 1) (v := .int (b2i x1)) hx hb hml hown hts hK hN hl.1 (c_X1_knows l D k (fun j => a (2 + j)) R.1 y1 x1 h2) gX4_of_X1_knows rfl (by decide +kernel) ⟨⟨rfl, rfl⟩, by decide, by decide⟩ (hP.sub (ws' := sceneW k (fun j => a (2 + j)) R.1) [2, 3, 4, 5, 6, 7, 8, 9] rfl) 0 1 rfl rfl rfl rfl rfl (Nat.le_of_ble_eq_true rfl) dX4_of_5 ⟨Nat.zero_le _, Nat.zero_le _⟩ ?_
  refine lv_if_ne (tgt := 13) hx hb dX4_of_8 (by decide) (fun c3 => ?_) (fun c3 => ?_)
  · have h := if_f h c3
    refine lv_iload_n hx hb dX4_of_13 rfl (lv_at hl 2 rfl) ?_
    by_cases c4 : y2 = 0
    · have h := if_t h c4
      refine lv_tableIn (tgt := 48) hx hb dX4_of_14 (by rw [c4]; decide) (by rw [c4]; decide) (by rw [c4]; rfl) (by decide) ?_
      refine lv_aload_n hx hb dX4_of_48 rfl (lv_at hl 0 rfl) ?_
      refine va_get (D := D) (ci := 4) (v := .ref (a 2)) (C := RX4) (T := TX4) (N := 5) hx hb hts hiRX4 hown hK hP 0 rfl rfl 0 (by decide) hf12 (fun _ h9 => h9) rfl dX4_of_49 ?_
      refine va_get (D := D) (ci := 1) (v := .ref (a 5)) (C := RX1) (T := TX1) (N := 8) hx hb hts hiRX1 hown hK hP 2 rfl rfl 3 (by decide) hf66 (fun _ h9 => h9) rfl dX4_of_52 ?_
      refine lv_iload_n hx hb dX4_of_55 rfl (lv_at hl 1 rfl) ?_
      obtain ⟨c5, h⟩ := gd_s h
      refine va_iald (D := D) hx hb hK hP 5 0 rfl rfl (ix_in c5) dX4_of_56 ?_
      refine lv_sipush (v := 1000) hx hb dX4_of_57 (by decide) ?_
      refine lv_iadd hx hb dX4_of_60 ?_
      obtain rfl := Option.some.inj h
      exact hQ _ _ dX4_of_61
    have h := if_f h c4
    by_cases c6 : y2 = 1
    · have h := if_t h c6
      refine lv_tableIn (tgt := 62) hx hb dX4_of_14 (by rw [c6]; decide) (by rw [c6]; decide) (by rw [c6]; rfl) (by decide) ?_
      refine lv_aload_n hx hb dX4_of_62 rfl (lv_at hl 0 rfl) ?_
      refine va_get (D := D) (ci := 4) (v := .ref (a 2)) (C := RX4) (T := TX4) (N := 5) hx hb hts hiRX4 hown hK hP 0 rfl rfl 0 (by decide) hf12 (fun _ h9 => h9) rfl dX4_of_63 ?_
      refine va_get (D := D) (ci := 1) (v := .ref (a 6)) (C := RX1) (T := TX1) (N := 8) hx hb hts hiRX1 hown hK hP 2 rfl rfl 4 (by decide) hf69 (fun _ h9 => h9) rfl dX4_of_66 ?_
      refine lv_iload_n hx hb dX4_of_69 rfl (lv_at hl 1 rfl) ?_
      obtain ⟨c7, h⟩ := gd_s h
      refine va_iald (D := D) hx hb hK hP 6 0 rfl rfl (ix_in c7) dX4_of_70 ?_
      refine lv_sipush (v := 1000) hx hb dX4_of_71 (by decide) ?_
      refine lv_iadd hx hb dX4_of_74 ?_
      obtain rfl := Option.some.inj h
      exact hQ _ _ dX4_of_75
    have h := if_f h c6
    by_cases c8 : y2 = 2
    · have h := if_t h c8
      refine lv_tableIn (tgt := 76) hx hb dX4_of_14 (by rw [c8]; decide) (by rw [c8]; decide) (by rw [c8]; rfl) (by decide) ?_
      refine lv_aload_n hx hb dX4_of_76 rfl (lv_at hl 0 rfl) ?_
      refine va_get (D := D) (ci := 4) (v := .ref (a 2)) (C := RX4) (T := TX4) (N := 5) hx hb hts hiRX4 hown hK hP 0 rfl rfl 0 (by decide) hf12 (fun _ h9 => h9) rfl dX4_of_77 ?_
      refine va_get (D := D) (ci := 1) (v := .ref (a 7)) (C := RX1) (T := TX1) (N := 8) hx hb hts hiRX1 hown hK hP 2 rfl rfl 5 (by decide) hf80 (fun _ h9 => h9) rfl dX4_of_80 ?_
      refine lv_iload_n hx hb dX4_of_83 rfl (lv_at hl 1 rfl) ?_
      obtain ⟨c9, h⟩ := gd_s h
      refine va_iald (D := D) hx hb hK hP 7 0 rfl rfl (ix_in c9) dX4_of_84 ?_
      refine lv_sipush (v := 1000) hx hb dX4_of_85 (by decide) ?_
      refine lv_iadd hx hb dX4_of_88 ?_
      obtain rfl := Option.some.inj h
      exact hQ _ _ dX4_of_89
    have h := if_f h c8
    by_cases c10 : y2 = 3
    · have h := if_t h c10
      refine lv_tableIn (tgt := 90) hx hb dX4_of_14 (by rw [c10]; decide) (by rw [c10]; decide) (by rw [c10]; rfl) (by decide) ?_
      refine lv_aload_n hx hb dX4_of_90 rfl (lv_at hl 0 rfl) ?_
      refine va_get (D := D) (ci := 4) (v := .ref (a 2)) (C := RX4) (T := TX4) (N := 5) hx hb hts hiRX4 hown hK hP 0 rfl rfl 0 (by decide) hf12 (fun _ h9 => h9) rfl dX4_of_91 ?_
      refine lv_iload_n hx hb dX4_of_94 rfl (lv_at hl 1 rfl) ?_
      obtain ⟨x11, h12, h⟩ := bd_s h
      refine cR_V (As := [.int y1]) (rest := []) (n := 1) (v := .int x11) hx hb hml hown hts hK hN hl.1 (c_X1_daysOut l D k (fun j => a (2 + j)) R.1 y1 x11 h12) gX4_of_X1_daysOut rfl (by decide +kernel) ⟨⟨rfl, rfl⟩, by decide, by decide⟩ (hP.sub (ws' := sceneW k (fun j => a (2 + j)) R.1) [2, 3, 4, 5, 6, 7, 8, 9] rfl) 0 1 rfl rfl rfl rfl rfl (Nat.le_of_ble_eq_true rfl) dX4_of_95 ⟨Nat.zero_le _, Nat.zero_le _⟩ ?_
      obtain rfl := Option.some.inj h
      exact hQ _ _ dX4_of_98
    have h := if_f h c10
    by_cases c13 : y2 = 4
    · have h := if_t h c13
      refine lv_tableIn (tgt := 99) hx hb dX4_of_14 (by rw [c13]; decide) (by rw [c13]; decide) (by rw [c13]; rfl) (by decide) ?_
      refine lv_aload_n hx hb dX4_of_99 rfl (lv_at hl 0 rfl) ?_
      refine va_get (D := D) (ci := 4) (v := .ref (a 2)) (C := RX4) (T := TX4) (N := 5) hx hb hts hiRX4 hown hK hP 0 rfl rfl 0 (by decide) hf12 (fun _ h9 => h9) rfl dX4_of_100 ?_
      refine lv_iload_n hx hb dX4_of_103 rfl (lv_at hl 1 rfl) ?_
      obtain ⟨x14, h15, h⟩ := bd_s h
      refine cR_V (As := [.int y1]) (rest := []) (n := 1) (v := .int x14) hx hb hml hown hts hK hN hl.1 (c_X1_daysRead l D k (fun j => a (2 + j)) R.1 y1 x14 h15) gX4_of_X1_daysRead rfl (by decide +kernel) ⟨⟨rfl, rfl⟩, by decide, by decide⟩ (hP.sub (ws' := sceneW k (fun j => a (2 + j)) R.1) [2, 3, 4, 5, 6, 7, 8, 9] rfl) 0 1 rfl rfl rfl rfl rfl (Nat.le_of_ble_eq_true rfl) dX4_of_104 ⟨Nat.zero_le _, Nat.zero_le _⟩ ?_
      obtain rfl := Option.some.inj h
      exact hQ _ _ dX4_of_107
    have h := if_f h c13
    refine lv_tableOut (tgt := 108) hx hb dX4_of_14 (by have n0 := lv_neT c4 (k := 0) (a := 0) (by decide); have n1 := lv_neT c6 (k := 1) (a := 1) (by decide); have n2 := lv_neT c8 (k := 2) (a := 2) (by decide); have n3 := lv_neT c10 (k := 3) (a := 3) (by decide); have n4 := lv_neT c13 (k := 4) (a := 4) (by decide); omega) (by decide) ?_
    refine lv_bipush (v := (-2)) hx hb dX4_of_108 (by decide) ?_
    obtain rfl := Option.some.inj h
    exact hQ _ _ dX4_of_110
  · have h := if_t h c3
    refine lv_iconst (v := (-1)) hx hb dX4_of_11 (by decide) ?_
    obtain rfl := Option.some.inj h
    exact hQ _ _ dX4_of_12

abbrev rm_X4_reading : Room := { frames := 1, cells := 0, slots := 0, locals := 22 }
def f_X4_reading (R : RcV) (y1 : Int32) (y2 : Int32) : Option (Int32) := (f_X1_knows R.1 y1).bind (fun x1 => if (b2i x1) = 0 then (some (-1)) else ((f_X4_isDay y2).bind (fun x4 => if (b2i x4) = 0 then (some (-2)) else ((f_X1_readingOf R.1 y1 y2).bind (fun x7 => some x7)))))
set_option maxHeartbeats 4000000 in
set_option maxRecDepth 100000 in
theorem c_X4_reading (l : Launch) (D : va_G) (k : Nat → ClassId) (a : Nat → Nat) (R : RcV) (y1 : Int32) (y2 : Int32) (r : Int32) (h : f_X4_reading R y1 y2 = some r) : Met l yX4_reading wsX4_reading rm_X4_reading (va_Pc [.ref (a 0), .int y1, .int y2] (RB D k (rcW k a R))) (QR (some (.int r))) 0 0 (fun _ => False) := by
  refine met_Ri (by decide) rfl (Nat.le_of_ble_eq_true rfl) ?_
  intro p e s m below meth c Q args ls hx hb hml hown hts hP hK hN hl hQ
  have hl : lv_has ls 3 [(0, .ref (a 0)), (1, .int y1), (2, .int y2)] := hl
  have hown : s.vm.findClass RX4 = some m.cls := hown
  unfold f_X4_reading at h
  have hiRX4 : ∀ w ∈ u_ws RX4 TX4 5, w ∈ wsX4_reading := by decide +kernel
  have hf12 := hts (.fieldLink RX4 12 "RainCells" "scene" "LRainCells$Scene;") (by decide +kernel)
  refine lv_aload_n hx hb dX4_reading_0 rfl (lv_at hl 0 rfl) ?_
  refine va_get (D := D) (ci := 4) (v := .ref (a 2)) (C := RX4) (T := TX4) (N := 5) hx hb hts hiRX4 hown hK hP 0 rfl rfl 0 (by decide) hf12 (fun _ h9 => h9) rfl dX4_reading_1 ?_
  refine lv_iload_n hx hb dX4_reading_4 rfl (lv_at hl 1 rfl) ?_
  obtain ⟨x1, h2, h⟩ := bd_s h
  refine cR_V (As := [.int y1]) (rest := []) (n := 1) (v := .int (b2i x1)) hx hb hml hown hts hK hN hl.1 (c_X1_knows l D k (fun j => a (2 + j)) R.1 y1 x1 h2) gX4_reading_X1_knows rfl (by decide +kernel) ⟨⟨rfl, rfl⟩, by decide, by decide⟩ (hP.sub (ws' := sceneW k (fun j => a (2 + j)) R.1) [2, 3, 4, 5, 6, 7, 8, 9] rfl) 0 1 rfl rfl rfl rfl rfl (Nat.le_of_ble_eq_true rfl) dX4_reading_5 ⟨Nat.zero_le _, Nat.zero_le _⟩ ?_
  refine lv_if_ne (tgt := 13) hx hb dX4_reading_8 (by decide) (fun c3 => ?_) (fun c3 => ?_)
  · have h := if_f h c3
    refine lv_iload_n hx hb dX4_reading_13 rfl (lv_at hl 2 rfl) ?_
    obtain ⟨x4, h5, h⟩ := bd_s h
    refine cR_S (As := [.int y2]) (rest := []) (n := 1) (v := .int (b2i x4)) hx hb hml hown hts hK hN hl.1 (c_X4_isDay l D k y2 x4 h5) gX4_reading_X4_isDay rfl (by decide +kernel) ⟨⟨rfl, rfl⟩, by decide, by decide⟩ va_P_nil rfl rfl (Nat.le_of_ble_eq_true rfl) dX4_reading_14 ⟨Nat.zero_le _, Nat.zero_le _⟩ ?_
    refine lv_if_ne (tgt := 23) hx hb dX4_reading_17 (by decide) (fun c6 => ?_) (fun c6 => ?_)
    · have h := if_f h c6
      refine lv_aload_n hx hb dX4_reading_23 rfl (lv_at hl 0 rfl) ?_
      refine va_get (D := D) (ci := 4) (v := .ref (a 2)) (C := RX4) (T := TX4) (N := 5) hx hb hts hiRX4 hown hK hP 0 rfl rfl 0 (by decide) hf12 (fun _ h9 => h9) rfl dX4_reading_24 ?_
      refine lv_iload_n hx hb dX4_reading_27 rfl (lv_at hl 1 rfl) ?_
      refine lv_iload_n hx hb dX4_reading_28 rfl (lv_at hl 2 rfl) ?_
      obtain ⟨x7, h8, h⟩ := bd_s h
      refine cR_V (As := [.int y1, .int y2]) (rest := []) (n := 2) (v := .int x7) hx hb hml hown hts hK hN hl.1 (c_X1_readingOf l D k (fun j => a (2 + j)) R.1 y1 y2 x7 h8) gX4_reading_X1_readingOf rfl (by decide +kernel) ⟨⟨rfl, rfl⟩, by decide, by decide⟩ (hP.sub (ws' := sceneW k (fun j => a (2 + j)) R.1) [2, 3, 4, 5, 6, 7, 8, 9] rfl) 0 1 rfl rfl rfl rfl rfl (Nat.le_of_ble_eq_true rfl) dX4_reading_29 ⟨Nat.zero_le _, Nat.zero_le _⟩ ?_
      obtain rfl := Option.some.inj h
      exact hQ _ _ dX4_reading_32
    · have h := if_t h c6
      refine lv_bipush (v := (-2)) hx hb dX4_reading_20 (by decide) ?_
      obtain rfl := Option.some.inj h
      exact hQ _ _ dX4_reading_22
  · have h := if_t h c3
    refine lv_iconst (v := (-1)) hx hb dX4_reading_11 (by decide) ?_
    obtain rfl := Option.some.inj h
    exact hQ _ _ dX4_reading_12

abbrev rm_X4_working : Room := { frames := 2, cells := 0, slots := 0, locals := 46 }
def f_X4_working (R : RcV) (y1 : Int32) : Option (Int32) := (f_X4_isDay y1).bind (fun x1 => if (b2i x1) = 0 then (some (-2)) else ((f_X1_workingOn R.1 y1).bind (fun x4 => some x4)))
set_option maxHeartbeats 4000000 in
set_option maxRecDepth 100000 in
theorem c_X4_working (l : Launch) (D : va_G) (k : Nat → ClassId) (a : Nat → Nat) (R : RcV) (y1 : Int32) (r : Int32) (h : f_X4_working R y1 = some r) : Met l yX4_working wsX4_working rm_X4_working (va_Pc [.ref (a 0), .int y1] (RB D k (rcW k a R))) (QR (some (.int r))) 0 0 (fun _ => False) := by
  refine met_Ri (by decide) rfl (Nat.le_of_ble_eq_true rfl) ?_
  intro p e s m below meth c Q args ls hx hb hml hown hts hP hK hN hl hQ
  have hl : lv_has ls 2 [(0, .ref (a 0)), (1, .int y1)] := hl
  have hown : s.vm.findClass RX4 = some m.cls := hown
  unfold f_X4_working at h
  have hiRX4 : ∀ w ∈ u_ws RX4 TX4 5, w ∈ wsX4_working := by decide +kernel
  have hf12 := hts (.fieldLink RX4 12 "RainCells" "scene" "LRainCells$Scene;") (by decide +kernel)
  refine lv_iload_n hx hb dX4_working_0 rfl (lv_at hl 1 rfl) ?_
  obtain ⟨x1, h2, h⟩ := bd_s h
  refine cR_S (As := [.int y1]) (rest := []) (n := 1) (v := .int (b2i x1)) hx hb hml hown hts hK hN hl.1 (c_X4_isDay l D k y1 x1 h2) gX4_working_X4_isDay rfl (by decide +kernel) ⟨⟨rfl, rfl⟩, by decide, by decide⟩ va_P_nil rfl rfl (Nat.le_of_ble_eq_true rfl) dX4_working_1 ⟨Nat.zero_le _, Nat.zero_le _⟩ ?_
  refine lv_if_ne (tgt := 10) hx hb dX4_working_4 (by decide) (fun c3 => ?_) (fun c3 => ?_)
  · have h := if_f h c3
    refine lv_aload_n hx hb dX4_working_10 rfl (lv_at hl 0 rfl) ?_
    refine va_get (D := D) (ci := 4) (v := .ref (a 2)) (C := RX4) (T := TX4) (N := 5) hx hb hts hiRX4 hown hK hP 0 rfl rfl 0 (by decide) hf12 (fun _ h9 => h9) rfl dX4_working_11 ?_
    refine lv_iload_n hx hb dX4_working_14 rfl (lv_at hl 1 rfl) ?_
    obtain ⟨x4, h5, h⟩ := bd_s h
    refine cR_V (As := [.int y1]) (rest := []) (n := 1) (v := .int x4) hx hb hml hown hts hK hN hl.1 (c_X1_workingOn l D k (fun j => a (2 + j)) R.1 y1 x4 h5) gX4_working_X1_workingOn rfl (by decide +kernel) ⟨⟨rfl, rfl⟩, by decide, by decide⟩ (hP.sub (ws' := sceneW k (fun j => a (2 + j)) R.1) [2, 3, 4, 5, 6, 7, 8, 9] rfl) 0 1 rfl rfl rfl rfl rfl (Nat.le_of_ble_eq_true rfl) dX4_working_15 ⟨Nat.zero_le _, Nat.zero_le _⟩ ?_
    obtain rfl := Option.some.inj h
    exact hQ _ _ dX4_working_18
  · have h := if_t h c3
    refine lv_bipush (v := (-2)) hx hb dX4_working_7 (by decide) ?_
    obtain rfl := Option.some.inj h
    exact hQ _ _ dX4_working_9
