/-! written by wip/whole/gen.py -/
abbrev rm_X4_isPlot : Room := { frames := 0, cells := 0, slots := 0, locals := 0 }
def f_X4_isPlot (y0 : Int32) (y1 : Int32) : Option (Bool) := if y0 < 0 then (some false) else (if 16 ≤ y0 then (some false) else (if y1 < 0 then (some false) else (if 16 ≤ y1 then (some false) else (some true))))
set_option maxHeartbeats 4000000 in
set_option maxRecDepth 100000 in
theorem c_X4_isPlot (l : Launch) (D : va_G) (k : Nat → ClassId) (y0 : Int32) (y1 : Int32) (r : Bool) (h : f_X4_isPlot y0 y1 = some r) : Met l yX4_isPlot wsX4_isPlot rm_X4_isPlot (va_Pc [.int y0, .int y1] (RB D k ([]))) (QR (some (.int (b2i r)))) 0 0 (fun _ => False) := by
  refine met_Rz (by decide) rfl (Nat.le_of_ble_eq_true rfl) ?_
  intro p e s m below meth c Q args ls hx hb hml hown hts hP hK hN hl hQ
  have hl : lv_has ls 2 [(0, .int y0), (1, .int y1)] := hl
  have hown : s.vm.findClass RX4 = some m.cls := hown
  unfold f_X4_isPlot at h
  refine lv_iload_n hx hb dX4_isPlot_0 rfl (lv_at hl 0 rfl) ?_
  refine lv_if_lt (tgt := 24) hx hb dX4_isPlot_1 (by decide) (fun c1 => ?_) (fun c1 => ?_)
  · have h := if_t h c1
    refine lv_iconst (v := 0) hx hb dX4_isPlot_24 (by decide) ?_
    obtain rfl := Option.some.inj h
    exact hQ _ _ dX4_isPlot_25
  · have h := if_f h c1
    refine lv_iload_n hx hb dX4_isPlot_4 rfl (lv_at hl 0 rfl) ?_
    refine lv_bipush (v := 16) hx hb dX4_isPlot_5 (by decide) ?_
    refine lv_icmp_ge (tgt := 24) hx hb dX4_isPlot_7 (by decide) (fun c2 => ?_) (fun c2 => ?_)
    · have h := if_t h c2
      refine lv_iconst (v := 0) hx hb dX4_isPlot_24 (by decide) ?_
      obtain rfl := Option.some.inj h
      exact hQ _ _ dX4_isPlot_25
    · have h := if_f h c2
      refine lv_iload_n hx hb dX4_isPlot_10 rfl (lv_at hl 1 rfl) ?_
      refine lv_if_lt (tgt := 24) hx hb dX4_isPlot_11 (by decide) (fun c3 => ?_) (fun c3 => ?_)
      · have h := if_t h c3
        refine lv_iconst (v := 0) hx hb dX4_isPlot_24 (by decide) ?_
        obtain rfl := Option.some.inj h
        exact hQ _ _ dX4_isPlot_25
      · have h := if_f h c3
        refine lv_iload_n hx hb dX4_isPlot_14 rfl (lv_at hl 1 rfl) ?_
        refine lv_bipush (v := 16) hx hb dX4_isPlot_15 (by decide) ?_
        refine lv_icmp_ge (tgt := 24) hx hb dX4_isPlot_17 (by decide) (fun c4 => ?_) (fun c4 => ?_)
        · have h := if_t h c4
          refine lv_iconst (v := 0) hx hb dX4_isPlot_24 (by decide) ?_
          obtain rfl := Option.some.inj h
          exact hQ _ _ dX4_isPlot_25
        · have h := if_f h c4
          refine lv_iconst (v := 1) hx hb dX4_isPlot_20 (by decide) ?_
          refine lv_goto (tgt := 25) hx hb dX4_isPlot_21 (by decide) ?_
          obtain rfl := Option.some.inj h
          exact hQ _ _ dX4_isPlot_25

abbrev rm_X4_isPlace : Room := { frames := 0, cells := 0, slots := 0, locals := 0 }
def f_X4_isPlace (y0 : Int32) (y1 : Int32) : Option (Bool) := if y0 < (-20) then (some false) else (if 35 < y0 then (some false) else (if y1 < (-20) then (some false) else (if 35 < y1 then (some false) else (some true))))
set_option maxHeartbeats 4000000 in
set_option maxRecDepth 100000 in
theorem c_X4_isPlace (l : Launch) (D : va_G) (k : Nat → ClassId) (y0 : Int32) (y1 : Int32) (r : Bool) (h : f_X4_isPlace y0 y1 = some r) : Met l yX4_isPlace wsX4_isPlace rm_X4_isPlace (va_Pc [.int y0, .int y1] (RB D k ([]))) (QR (some (.int (b2i r)))) 0 0 (fun _ => False) := by
  refine met_Rz (by decide) rfl (Nat.le_of_ble_eq_true rfl) ?_
  intro p e s m below meth c Q args ls hx hb hml hown hts hP hK hN hl hQ
  have hl : lv_has ls 2 [(0, .int y0), (1, .int y1)] := hl
  have hown : s.vm.findClass RX4 = some m.cls := hown
  unfold f_X4_isPlace at h
  refine lv_iload_n hx hb dX4_isPlace_0 rfl (lv_at hl 0 rfl) ?_
  refine lv_bipush (v := (-20)) hx hb dX4_isPlace_1 (by decide) ?_
  refine lv_icmp_lt (tgt := 28) hx hb dX4_isPlace_3 (by decide) (fun c1 => ?_) (fun c1 => ?_)
  · have h := if_t h c1
    refine lv_iconst (v := 0) hx hb dX4_isPlace_28 (by decide) ?_
    obtain rfl := Option.some.inj h
    exact hQ _ _ dX4_isPlace_29
  · have h := if_f h c1
    refine lv_iload_n hx hb dX4_isPlace_6 rfl (lv_at hl 0 rfl) ?_
    refine lv_bipush (v := 35) hx hb dX4_isPlace_7 (by decide) ?_
    refine lv_icmp_gt (tgt := 28) hx hb dX4_isPlace_9 (by decide) (fun c2 => ?_) (fun c2 => ?_)
    · have h := if_t h c2
      refine lv_iconst (v := 0) hx hb dX4_isPlace_28 (by decide) ?_
      obtain rfl := Option.some.inj h
      exact hQ _ _ dX4_isPlace_29
    · have h := if_f h c2
      refine lv_iload_n hx hb dX4_isPlace_12 rfl (lv_at hl 1 rfl) ?_
      refine lv_bipush (v := (-20)) hx hb dX4_isPlace_13 (by decide) ?_
      refine lv_icmp_lt (tgt := 28) hx hb dX4_isPlace_15 (by decide) (fun c3 => ?_) (fun c3 => ?_)
      · have h := if_t h c3
        refine lv_iconst (v := 0) hx hb dX4_isPlace_28 (by decide) ?_
        obtain rfl := Option.some.inj h
        exact hQ _ _ dX4_isPlace_29
      · have h := if_f h c3
        refine lv_iload_n hx hb dX4_isPlace_18 rfl (lv_at hl 1 rfl) ?_
        refine lv_bipush (v := 35) hx hb dX4_isPlace_19 (by decide) ?_
        refine lv_icmp_gt (tgt := 28) hx hb dX4_isPlace_21 (by decide) (fun c4 => ?_) (fun c4 => ?_)
        · have h := if_t h c4
          refine lv_iconst (v := 0) hx hb dX4_isPlace_28 (by decide) ?_
          obtain rfl := Option.some.inj h
          exact hQ _ _ dX4_isPlace_29
        · have h := if_f h c4
          refine lv_iconst (v := 1) hx hb dX4_isPlace_24 (by decide) ?_
          refine lv_goto (tgt := 29) hx hb dX4_isPlace_25 (by decide) ?_
          obtain rfl := Option.some.inj h
          exact hQ _ _ dX4_isPlace_29

abbrev rm_X4_isDay : Room := { frames := 0, cells := 0, slots := 0, locals := 0 }
def f_X4_isDay (y0 : Int32) : Option (Bool) := if y0 < 0 then (some false) else (if 64 ≤ y0 then (some false) else (some true))
set_option maxHeartbeats 4000000 in
set_option maxRecDepth 100000 in
theorem c_X4_isDay (l : Launch) (D : va_G) (k : Nat → ClassId) (y0 : Int32) (r : Bool) (h : f_X4_isDay y0 = some r) : Met l yX4_isDay wsX4_isDay rm_X4_isDay (va_Pc [.int y0] (RB D k ([]))) (QR (some (.int (b2i r)))) 0 0 (fun _ => False) := by
  refine met_Rz (by decide) rfl (Nat.le_of_ble_eq_true rfl) ?_
  intro p e s m below meth c Q args ls hx hb hml hown hts hP hK hN hl hQ
  have hl : lv_has ls 1 [(0, .int y0)] := hl
  have hown : s.vm.findClass RX4 = some m.cls := hown
  unfold f_X4_isDay at h
  refine lv_iload_n hx hb dX4_isDay_0 rfl (lv_at hl 0 rfl) ?_
  refine lv_if_lt (tgt := 14) hx hb dX4_isDay_1 (by decide) (fun c1 => ?_) (fun c1 => ?_)
  · have h := if_t h c1
    refine lv_iconst (v := 0) hx hb dX4_isDay_14 (by decide) ?_
    obtain rfl := Option.some.inj h
    exact hQ _ _ dX4_isDay_15
  · have h := if_f h c1
    refine lv_iload_n hx hb dX4_isDay_4 rfl (lv_at hl 0 rfl) ?_
    refine lv_bipush (v := 64) hx hb dX4_isDay_5 (by decide) ?_
    refine lv_icmp_ge (tgt := 14) hx hb dX4_isDay_7 (by decide) (fun c2 => ?_) (fun c2 => ?_)
    · have h := if_t h c2
      refine lv_iconst (v := 0) hx hb dX4_isDay_14 (by decide) ?_
      obtain rfl := Option.some.inj h
      exact hQ _ _ dX4_isDay_15
    · have h := if_f h c2
      refine lv_iconst (v := 1) hx hb dX4_isDay_10 (by decide) ?_
      refine lv_goto (tgt := 15) hx hb dX4_isDay_11 (by decide) ?_
      obtain rfl := Option.some.inj h
      exact hQ _ _ dX4_isDay_15

abbrev rm_X4_areDays : Room := { frames := 1, cells := 0, slots := 0, locals := 20 }
def f_X4_areDays (y0 : Int32) (y1 : Int32) : Option (Bool) := (f_X4_isDay y0).bind (fun x1 => if (b2i x1) = 0 then (some false) else ((f_X4_isDay y1).bind (fun x4 => if (b2i x4) = 0 then (some false) else (if y1 < y0 then (some false) else (some true)))))
set_option maxHeartbeats 4000000 in
set_option maxRecDepth 100000 in
theorem c_X4_areDays (l : Launch) (D : va_G) (k : Nat → ClassId) (y0 : Int32) (y1 : Int32) (r : Bool) (h : f_X4_areDays y0 y1 = some r) : Met l yX4_areDays wsX4_areDays rm_X4_areDays (va_Pc [.int y0, .int y1] (RB D k ([]))) (QR (some (.int (b2i r)))) 0 0 (fun _ => False) := by
  refine met_Rz (by decide) rfl (Nat.le_of_ble_eq_true rfl) ?_
  intro p e s m below meth c Q args ls hx hb hml hown hts hP hK hN hl hQ
  have hl : lv_has ls 2 [(0, .int y0), (1, .int y1)] := hl
  have hown : s.vm.findClass RX4 = some m.cls := hown
  unfold f_X4_areDays at h
  refine lv_iload_n hx hb dX4_areDays_0 rfl (lv_at hl 0 rfl) ?_
  obtain ⟨x1, h2, h⟩ := bd_s h
  refine cR_S (As := [.int y0]) (rest := []) (n := 1) (v := .int (b2i x1)) hx hb hml hown hts hK hN hl.1 (c_X4_isDay l D k y0 x1 h2) gX4_areDays_X4_isDay rfl (by decide +kernel) ⟨⟨rfl, rfl⟩, by decide, by decide⟩ va_P_nil rfl rfl (Nat.le_of_ble_eq_true rfl) dX4_areDays_1 ⟨Nat.zero_le _, Nat.zero_le _⟩ ?_
  refine lv_if_eq (tgt := 23) hx hb dX4_areDays_4 (by decide) (fun c3 => ?_) (fun c3 => ?_)
  · have h := if_t h c3
    refine lv_iconst (v := 0) hx hb dX4_areDays_23 (by decide) ?_
    obtain rfl := Option.some.inj h
    exact hQ _ _ dX4_areDays_24
  · have h := if_f h c3
    refine lv_iload_n hx hb dX4_areDays_7 rfl (lv_at hl 1 rfl) ?_
    obtain ⟨x4, h5, h⟩ := bd_s h
    refine cR_S (As := [.int y1]) (rest := []) (n := 1) (v := .int (b2i x4)) hx hb hml hown hts hK hN hl.1 (c_X4_isDay l D k y1 x4 h5) gX4_areDays_X4_isDay rfl (by decide +kernel) ⟨⟨rfl, rfl⟩, by decide, by decide⟩ va_P_nil rfl rfl (Nat.le_of_ble_eq_true rfl) dX4_areDays_8 ⟨Nat.zero_le _, Nat.zero_le _⟩ ?_
    refine lv_if_eq (tgt := 23) hx hb dX4_areDays_11 (by decide) (fun c6 => ?_) (fun c6 => ?_)
    · have h := if_t h c6
      refine lv_iconst (v := 0) hx hb dX4_areDays_23 (by decide) ?_
      obtain rfl := Option.some.inj h
      exact hQ _ _ dX4_areDays_24
    · have h := if_f h c6
      refine lv_iload_n hx hb dX4_areDays_14 rfl (lv_at hl 0 rfl) ?_
      refine lv_iload_n hx hb dX4_areDays_15 rfl (lv_at hl 1 rfl) ?_
      refine lv_icmp_gt (tgt := 23) hx hb dX4_areDays_16 (by decide) (fun c7 => ?_) (fun c7 => ?_)
      · have h := if_t h c7
        refine lv_iconst (v := 0) hx hb dX4_areDays_23 (by decide) ?_
        obtain rfl := Option.some.inj h
        exact hQ _ _ dX4_areDays_24
      · have h := if_f h c7
        refine lv_iconst (v := 1) hx hb dX4_areDays_19 (by decide) ?_
        refine lv_goto (tgt := 24) hx hb dX4_areDays_20 (by decide) ?_
        obtain rfl := Option.some.inj h
        exact hQ _ _ dX4_areDays_24

abbrev rm_X4_isPart : Room := { frames := 0, cells := 0, slots := 0, locals := 0 }
def f_X4_isPart (y0 : Int32) : Option (Bool) := if y0 = 0 then (some true) else (if y0 = 1 then (some true) else (some false))
set_option maxHeartbeats 4000000 in
set_option maxRecDepth 100000 in
theorem c_X4_isPart (l : Launch) (D : va_G) (k : Nat → ClassId) (y0 : Int32) (r : Bool) (h : f_X4_isPart y0 = some r) : Met l yX4_isPart wsX4_isPart rm_X4_isPart (va_Pc [.int y0] (RB D k ([]))) (QR (some (.int (b2i r)))) 0 0 (fun _ => False) := by
  refine met_Rz (by decide) rfl (Nat.le_of_ble_eq_true rfl) ?_
  intro p e s m below meth c Q args ls hx hb hml hown hts hP hK hN hl hQ
  have hl : lv_has ls 1 [(0, .int y0)] := hl
  have hown : s.vm.findClass RX4 = some m.cls := hown
  unfold f_X4_isPart at h
  refine lv_iload_n hx hb dX4_isPart_0 rfl (lv_at hl 0 rfl) ?_
  refine lv_if_eq (tgt := 9) hx hb dX4_isPart_1 (by decide) (fun c1 => ?_) (fun c1 => ?_)
  · have h := if_t h c1
    refine lv_iconst (v := 1) hx hb dX4_isPart_9 (by decide) ?_
    refine lv_goto (tgt := 14) hx hb dX4_isPart_10 (by decide) ?_
    obtain rfl := Option.some.inj h
    exact hQ _ _ dX4_isPart_14
  · have h := if_f h c1
    refine lv_iload_n hx hb dX4_isPart_4 rfl (lv_at hl 0 rfl) ?_
    refine lv_iconst (v := 1) hx hb dX4_isPart_5 (by decide) ?_
    refine lv_icmp_ne (tgt := 13) hx hb dX4_isPart_6 (by decide) (fun c2 => ?_) (fun c2 => ?_)
    · have h := if_f h c2
      refine lv_iconst (v := 0) hx hb dX4_isPart_13 (by decide) ?_
      obtain rfl := Option.some.inj h
      exact hQ _ _ dX4_isPart_14
    · have h := if_t h c2
      refine lv_iconst (v := 1) hx hb dX4_isPart_9 (by decide) ?_
      refine lv_goto (tgt := 14) hx hb dX4_isPart_10 (by decide) ?_
      obtain rfl := Option.some.inj h
      exact hQ _ _ dX4_isPart_14

abbrev rm_X4_isIn : Room := { frames := 0, cells := 0, slots := 0, locals := 0 }
def f_X4_isIn (y0 : Int32) (y1 : Int32) : Option (Bool) := if (y0 &&& ((1 : Int32) <<< (y1 &&& 31))) = 0 then (some false) else (some true)
set_option maxHeartbeats 4000000 in
set_option maxRecDepth 100000 in
theorem c_X4_isIn (l : Launch) (D : va_G) (k : Nat → ClassId) (y0 : Int32) (y1 : Int32) (r : Bool) (h : f_X4_isIn y0 y1 = some r) : Met l yX4_isIn wsX4_isIn rm_X4_isIn (va_Pc [.int y0, .int y1] (RB D k ([]))) (QR (some (.int (b2i r)))) 0 0 (fun _ => False) := by
  refine met_Rz (by decide) rfl (Nat.le_of_ble_eq_true rfl) ?_
  intro p e s m below meth c Q args ls hx hb hml hown hts hP hK hN hl hQ
  have hl : lv_has ls 2 [(0, .int y0), (1, .int y1)] := hl
  have hown : s.vm.findClass RX4 = some m.cls := hown
  unfold f_X4_isIn at h
  refine lv_iload_n hx hb dX4_isIn_0 rfl (lv_at hl 0 rfl) ?_
  refine lv_iconst (v := 1) hx hb dX4_isIn_1 (by decide) ?_
  refine lv_iload_n hx hb dX4_isIn_2 rfl (lv_at hl 1 rfl) ?_
  refine lv_ishl hx hb dX4_isIn_3 ?_
  refine lv_iand hx hb dX4_isIn_4 ?_
  refine lv_if_eq (tgt := 12) hx hb dX4_isIn_5 (by decide) (fun c1 => ?_) (fun c1 => ?_)
  · have h := if_t h c1
    refine lv_iconst (v := 0) hx hb dX4_isIn_12 (by decide) ?_
    obtain rfl := Option.some.inj h
    exact hQ _ _ dX4_isIn_13
  · have h := if_f h c1
    refine lv_iconst (v := 1) hx hb dX4_isIn_8 (by decide) ?_
    refine lv_goto (tgt := 13) hx hb dX4_isIn_9 (by decide) ?_
    obtain rfl := Option.some.inj h
    exact hQ _ _ dX4_isIn_13

abbrev rm_X4_with : Room := { frames := 0, cells := 0, slots := 0, locals := 0 }
def f_X4_with (y0 : Int32) (y1 : Int32) : Option (Int32) := some (y0 ||| ((1 : Int32) <<< (y1 &&& 31)))
set_option maxHeartbeats 4000000 in
set_option maxRecDepth 100000 in
theorem c_X4_with (l : Launch) (D : va_G) (k : Nat → ClassId) (y0 : Int32) (y1 : Int32) (r : Int32) (h : f_X4_with y0 y1 = some r) : Met l yX4_with wsX4_with rm_X4_with (va_Pc [.int y0, .int y1] (RB D k ([]))) (QR (some (.int r))) 0 0 (fun _ => False) := by
  refine met_Ri (by decide) rfl (Nat.le_of_ble_eq_true rfl) ?_
  intro p e s m below meth c Q args ls hx hb hml hown hts hP hK hN hl hQ
  have hl : lv_has ls 2 [(0, .int y0), (1, .int y1)] := hl
  have hown : s.vm.findClass RX4 = some m.cls := hown
  unfold f_X4_with at h
  refine lv_iload_n hx hb dX4_with_0 rfl (lv_at hl 0 rfl) ?_
  refine lv_iconst (v := 1) hx hb dX4_with_1 (by decide) ?_
  refine lv_iload_n hx hb dX4_with_2 rfl (lv_at hl 1 rfl) ?_
  refine lv_ishl hx hb dX4_with_3 ?_
  refine lv_ior hx hb dX4_with_4 ?_
  obtain rfl := Option.some.inj h
  exact hQ _ _ dX4_with_5

abbrev rm_X4_without : Room := { frames := 0, cells := 0, slots := 0, locals := 0 }
def f_X4_without (y0 : Int32) (y1 : Int32) : Option (Int32) := some (y0 &&& (((1 : Int32) <<< (y1 &&& 31)) ^^^ (-1)))
set_option maxHeartbeats 4000000 in
set_option maxRecDepth 100000 in
theorem c_X4_without (l : Launch) (D : va_G) (k : Nat → ClassId) (y0 : Int32) (y1 : Int32) (r : Int32) (h : f_X4_without y0 y1 = some r) : Met l yX4_without wsX4_without rm_X4_without (va_Pc [.int y0, .int y1] (RB D k ([]))) (QR (some (.int r))) 0 0 (fun _ => False) := by
  refine met_Ri (by decide) rfl (Nat.le_of_ble_eq_true rfl) ?_
  intro p e s m below meth c Q args ls hx hb hml hown hts hP hK hN hl hQ
  have hl : lv_has ls 2 [(0, .int y0), (1, .int y1)] := hl
  have hown : s.vm.findClass RX4 = some m.cls := hown
  unfold f_X4_without at h
  refine lv_iload_n hx hb dX4_without_0 rfl (lv_at hl 0 rfl) ?_
  refine lv_iconst (v := 1) hx hb dX4_without_1 (by decide) ?_
  refine lv_iload_n hx hb dX4_without_2 rfl (lv_at hl 1 rfl) ?_
  refine lv_ishl hx hb dX4_without_3 ?_
  refine lv_iconst (v := (-1)) hx hb dX4_without_4 (by decide) ?_
  refine lv_ixor hx hb dX4_without_5 ?_
  refine lv_iand hx hb dX4_without_6 ?_
  obtain rfl := Option.some.inj h
  exact hQ _ _ dX4_without_7

abbrev rm_X4_commonDivisor : Room := { frames := 0, cells := 0, slots := 0, locals := 0 }
def f_X4_commonDivisor_L7 (z : Int32 × Int32 × Int32) : Option ((Int32 × Int32 × Int32) ⊕ (Int32)) := if 64 ≤ z.2.2 then (some (.inr z.1)) else (if z.2.1 = 0 then (some (.inr z.1)) else (if z.2.1 = 0 then none else (some (.inl (z.2.1, (z.1 - z.1 / z.2.1 * z.2.1), (z.2.2 + 1))))))
def f_X4_commonDivisor (y0 : Int32) (y1 : Int32) : Option (Int32) := (lp (f_X4_commonDivisor_L7) fu (y0, y1, 0)).bind (fun x1 => some x1)
set_option maxHeartbeats 4000000 in
set_option maxRecDepth 100000 in
theorem c_X4_commonDivisor (l : Launch) (D : va_G) (k : Nat → ClassId) (y0 : Int32) (y1 : Int32) (r : Int32) (h : f_X4_commonDivisor y0 y1 = some r) : Met l yX4_commonDivisor wsX4_commonDivisor rm_X4_commonDivisor (va_Pc [.int y0, .int y1] (RB D k ([]))) (QR (some (.int r))) 0 0 (fun _ => False) := by
  refine met_Ri (by decide) rfl (Nat.le_of_ble_eq_true rfl) ?_
  intro p e s m below meth c Q args ls hx hb hml hown hts hP hK hN hl hQ
  have hl : lv_has ls 6 [(0, .int y0), (1, .int y1)] := hl
  have hown : s.vm.findClass RX4 = some m.cls := hown
  unfold f_X4_commonDivisor at h
  refine lv_iload_n hx hb dX4_commonDivisor_0 rfl (lv_at hl 0 rfl) ?_
  refine lv_istore_n (lv' := [(2, .int y0), (0, .int y0), (1, .int y1)]) hx hb dX4_commonDivisor_1 rfl hl (by decide) rfl (fun ls hl => ?_)
  refine lv_iload_n hx hb dX4_commonDivisor_2 rfl (lv_at hl 2 rfl) ?_
  refine lv_istore_n (lv' := [(3, .int y1), (2, .int y0), (0, .int y0), (1, .int y1)]) hx hb dX4_commonDivisor_3 rfl hl (by decide) rfl (fun ls hl => ?_)
  refine lv_iconst (v := 0) hx hb dX4_commonDivisor_4 (by decide) ?_
  refine lv_istore (lv' := [(4, .int 0), (3, .int y1), (2, .int y0), (0, .int y0), (1, .int y1)]) hx hb dX4_commonDivisor_5 hl (by decide) rfl (fun ls hl => ?_)
  obtain ⟨x1, h2, h⟩ := bd_s h
  have K11 : ∀ (ls : Array Slot), lv_has ls 6 [(2, .int x1)] → W p l e rm_X4_commonDivisor s m args below meth c s.heap [] 0 0 Q (F0 m 34 ls []) := by
    intro ls hl
    refine lv_iload_n hx hb dX4_commonDivisor_34 rfl (lv_at hl 0 rfl) ?_
    obtain rfl := Option.some.inj h
    exact hQ _ _ dX4_commonDivisor_35
  refine lp_W (P := fun z3 => ∀ (ls : Array Slot), lv_has ls 6 [(2, .int z3.1), (3, .int z3.2.1), (4, .int z3.2.2)] → W p l e rm_X4_commonDivisor s m args below meth c s.heap [] 0 0 Q (F0 m 7 ls [])) (E := fun x1 => ∀ (ls : Array Slot), lv_has ls 6 [(2, .int x1)] → W p l e rm_X4_commonDivisor s m args below meth c s.heap [] 0 0 Q (F0 m 34 ls [])) (fun z3 xx5 hB4 kI6 kE7 => ?_) _ _ _ h2 K11 ls (lv_sub hl [2, 1, 0] rfl)
  intro ls hl
  unfold f_X4_commonDivisor_L7 at hB4
  refine lv_iload hx hb dX4_commonDivisor_7 (lv_at hl 2 rfl) ?_
  refine lv_bipush (v := 64) hx hb dX4_commonDivisor_9 (by decide) ?_
  refine lv_icmp_ge (tgt := 34) hx hb dX4_commonDivisor_11 (by decide) (fun c8 => ?_) (fun c8 => ?_)
  · have hB4 := if_t hB4 c8
    exact kE7 _ (Option.some.inj hB4).symm ls (lv_sub hl [0] rfl)
  · have hB4 := if_f hB4 c8
    refine lv_iload_n hx hb dX4_commonDivisor_14 rfl (lv_at hl 1 rfl) ?_
    refine lv_if_eq (tgt := 34) hx hb dX4_commonDivisor_15 (by decide) (fun c9 => ?_) (fun c9 => ?_)
    · have hB4 := if_t hB4 c9
      exact kE7 _ (Option.some.inj hB4).symm ls (lv_sub hl [0] rfl)
    · have hB4 := if_f hB4 c9
      refine lv_iload_n hx hb dX4_commonDivisor_18 rfl (lv_at hl 0 rfl) ?_
      refine lv_iload_n hx hb dX4_commonDivisor_19 rfl (lv_at hl 1 rfl) ?_
      obtain ⟨c10, hB4⟩ := if_n hB4
      refine lv_irem hx hb dX4_commonDivisor_20 c10 ?_
      refine lv_istore (lv' := [(5, .int (z3.1 - z3.1 / z3.2.1 * z3.2.1)), (2, .int z3.1), (3, .int z3.2.1), (4, .int z3.2.2)]) hx hb dX4_commonDivisor_21 hl (by decide) rfl (fun ls hl => ?_)
      refine lv_iload_n hx hb dX4_commonDivisor_23 rfl (lv_at hl 2 rfl) ?_
      refine lv_istore_n (lv' := [(2, .int z3.2.1), (5, .int (z3.1 - z3.1 / z3.2.1 * z3.2.1)), (3, .int z3.2.1), (4, .int z3.2.2)]) hx hb dX4_commonDivisor_24 rfl hl (by decide) rfl (fun ls hl => ?_)
      refine lv_iload hx hb dX4_commonDivisor_25 (lv_at hl 1 rfl) ?_
      refine lv_istore_n (lv' := [(3, .int (z3.1 - z3.1 / z3.2.1 * z3.2.1)), (2, .int z3.2.1), (5, .int (z3.1 - z3.1 / z3.2.1 * z3.2.1)), (4, .int z3.2.2)]) hx hb dX4_commonDivisor_27 rfl hl (by decide) rfl (fun ls hl => ?_)
      refine lv_iinc (v := (z3.2.2 + 1)) (lv' := [(4, .int (z3.2.2 + 1)), (3, .int (z3.1 - z3.1 / z3.2.1 * z3.2.1)), (2, .int z3.2.1), (5, .int (z3.1 - z3.1 / z3.2.1 * z3.2.1))]) hx hb dX4_commonDivisor_28 hl (k := 3) rfl rfl (by decide) rfl (fun ls hl => ?_)
      refine lv_goto (tgt := 7) hx hb dX4_commonDivisor_31 (by decide) ?_
      exact kI6 _ (Option.some.inj hB4).symm ls (lv_sub hl [2, 1, 0] rfl)

abbrev rm_X4_upper : Room := { frames := 1, cells := 0, slots := 0, locals := 25 }
def f_X4_upper (y0 : Int32) (y1 : Int32) : Option (Int32) := (f_X4_commonDivisor y0 y1).bind (fun x1 => if x1 = 0 then (some 0) else (if x1 = 0 then none else (some (y0 / x1))))
set_option maxHeartbeats 4000000 in
set_option maxRecDepth 100000 in
theorem c_X4_upper (l : Launch) (D : va_G) (k : Nat → ClassId) (y0 : Int32) (y1 : Int32) (r : Int32) (h : f_X4_upper y0 y1 = some r) : Met l yX4_upper wsX4_upper rm_X4_upper (va_Pc [.int y0, .int y1] (RB D k ([]))) (QR (some (.int r))) 0 0 (fun _ => False) := by
  refine met_Ri (by decide) rfl (Nat.le_of_ble_eq_true rfl) ?_
  intro p e s m below meth c Q args ls hx hb hml hown hts hP hK hN hl hQ
  have hl : lv_has ls 3 [(0, .int y0), (1, .int y1)] := hl
  have hown : s.vm.findClass RX4 = some m.cls := hown
  unfold f_X4_upper at h
  refine lv_iload_n hx hb dX4_upper_0 rfl (lv_at hl 0 rfl) ?_
  refine lv_iload_n hx hb dX4_upper_1 rfl (lv_at hl 1 rfl) ?_
  obtain ⟨x1, h2, h⟩ := bd_s h
  refine cR_S (As := [.int y0, .int y1]) (rest := []) (n := 2) (v := .int x1) hx hb hml hown hts hK hN hl.1 (c_X4_commonDivisor l D k y0 y1 x1 h2) gX4_upper_X4_commonDivisor rfl (by decide +kernel) ⟨⟨rfl, rfl⟩, by decide, by decide⟩ va_P_nil rfl rfl (Nat.le_of_ble_eq_true rfl) dX4_upper_2 ⟨Nat.zero_le _, Nat.zero_le _⟩ ?_
  refine lv_istore_n (lv' := [(2, .int x1), (0, .int y0), (1, .int y1)]) hx hb dX4_upper_5 rfl hl (by decide) rfl (fun ls hl => ?_)
  refine lv_iload_n hx hb dX4_upper_6 rfl (lv_at hl 0 rfl) ?_
  refine lv_if_ne (tgt := 14) hx hb dX4_upper_7 (by decide) (fun c3 => ?_) (fun c3 => ?_)
  · have h := if_f h c3
    refine lv_iload_n hx hb dX4_upper_14 rfl (lv_at hl 1 rfl) ?_
    refine lv_iload_n hx hb dX4_upper_15 rfl (lv_at hl 0 rfl) ?_
    obtain ⟨c4, h⟩ := if_n h
    refine lv_idiv hx hb dX4_upper_16 c4 ?_
    obtain rfl := Option.some.inj h
    exact hQ _ _ dX4_upper_17
  · have h := if_t h c3
    refine lv_iconst (v := 0) hx hb dX4_upper_10 (by decide) ?_
    refine lv_goto (tgt := 17) hx hb dX4_upper_11 (by decide) ?_
    obtain rfl := Option.some.inj h
    exact hQ _ _ dX4_upper_17

abbrev rm_X4_lower : Room := { frames := 1, cells := 0, slots := 0, locals := 25 }
def f_X4_lower (y0 : Int32) (y1 : Int32) : Option (Int32) := (f_X4_commonDivisor y0 y1).bind (fun x1 => if x1 = 0 then (some 1) else (if x1 = 0 then none else (some (y1 / x1))))
set_option maxHeartbeats 4000000 in
set_option maxRecDepth 100000 in
theorem c_X4_lower (l : Launch) (D : va_G) (k : Nat → ClassId) (y0 : Int32) (y1 : Int32) (r : Int32) (h : f_X4_lower y0 y1 = some r) : Met l yX4_lower wsX4_lower rm_X4_lower (va_Pc [.int y0, .int y1] (RB D k ([]))) (QR (some (.int r))) 0 0 (fun _ => False) := by
  refine met_Ri (by decide) rfl (Nat.le_of_ble_eq_true rfl) ?_
  intro p e s m below meth c Q args ls hx hb hml hown hts hP hK hN hl hQ
  have hl : lv_has ls 3 [(0, .int y0), (1, .int y1)] := hl
  have hown : s.vm.findClass RX4 = some m.cls := hown
  unfold f_X4_lower at h
  refine lv_iload_n hx hb dX4_lower_0 rfl (lv_at hl 0 rfl) ?_
  refine lv_iload_n hx hb dX4_lower_1 rfl (lv_at hl 1 rfl) ?_
  obtain ⟨x1, h2, h⟩ := bd_s h
  refine cR_S (As := [.int y0, .int y1]) (rest := []) (n := 2) (v := .int x1) hx hb hml hown hts hK hN hl.1 (c_X4_commonDivisor l D k y0 y1 x1 h2) gX4_lower_X4_commonDivisor rfl (by decide +kernel) ⟨⟨rfl, rfl⟩, by decide, by decide⟩ va_P_nil rfl rfl (Nat.le_of_ble_eq_true rfl) dX4_lower_2 ⟨Nat.zero_le _, Nat.zero_le _⟩ ?_
  refine lv_istore_n (lv' := [(2, .int x1), (0, .int y0), (1, .int y1)]) hx hb dX4_lower_5 rfl hl (by decide) rfl (fun ls hl => ?_)
  refine lv_iload_n hx hb dX4_lower_6 rfl (lv_at hl 0 rfl) ?_
  refine lv_if_ne (tgt := 14) hx hb dX4_lower_7 (by decide) (fun c3 => ?_) (fun c3 => ?_)
  · have h := if_f h c3
    refine lv_iload_n hx hb dX4_lower_14 rfl (lv_at hl 2 rfl) ?_
    refine lv_iload_n hx hb dX4_lower_15 rfl (lv_at hl 0 rfl) ?_
    obtain ⟨c4, h⟩ := if_n h
    refine lv_idiv hx hb dX4_lower_16 c4 ?_
    obtain rfl := Option.some.inj h
    exact hQ _ _ dX4_lower_17
  · have h := if_t h c3
    refine lv_iconst (v := 1) hx hb dX4_lower_10 (by decide) ?_
    refine lv_goto (tgt := 17) hx hb dX4_lower_11 (by decide) ?_
    obtain rfl := Option.some.inj h
    exact hQ _ _ dX4_lower_17

abbrev rm_X4_part : Room := { frames := 2, cells := 0, slots := 0, locals := 47 }
def f_X4_part (y0 : Int32) (y1 : Int32) (y2 : Int32) : Option (Int32) := if y0 = 0 then ((f_X4_upper y1 y2).bind (fun x4 => some x4)) else ((f_X4_lower y1 y2).bind (fun x2 => some x2))
set_option maxHeartbeats 4000000 in
set_option maxRecDepth 100000 in
theorem c_X4_part (l : Launch) (D : va_G) (k : Nat → ClassId) (y0 : Int32) (y1 : Int32) (y2 : Int32) (r : Int32) (h : f_X4_part y0 y1 y2 = some r) : Met l yX4_part wsX4_part rm_X4_part (va_Pc [.int y0, .int y1, .int y2] (RB D k ([]))) (QR (some (.int r))) 0 0 (fun _ => False) := by
  refine met_Ri (by decide) rfl (Nat.le_of_ble_eq_true rfl) ?_
  intro p e s m below meth c Q args ls hx hb hml hown hts hP hK hN hl hQ
  have hl : lv_has ls 3 [(0, .int y0), (1, .int y1), (2, .int y2)] := hl
  have hown : s.vm.findClass RX4 = some m.cls := hown
  unfold f_X4_part at h
  refine lv_iload_n hx hb dX4_part_0 rfl (lv_at hl 0 rfl) ?_
  refine lv_if_ne (tgt := 12) hx hb dX4_part_1 (by decide) (fun c1 => ?_) (fun c1 => ?_)
  · have h := if_f h c1
    refine lv_iload_n hx hb dX4_part_12 rfl (lv_at hl 1 rfl) ?_
    refine lv_iload_n hx hb dX4_part_13 rfl (lv_at hl 2 rfl) ?_
    obtain ⟨x2, h3, h⟩ := bd_s h
    refine cR_S (As := [.int y1, .int y2]) (rest := []) (n := 2) (v := .int x2) hx hb hml hown hts hK hN hl.1 (c_X4_lower l D k y1 y2 x2 h3) gX4_part_X4_lower rfl (by decide +kernel) ⟨⟨rfl, rfl⟩, by decide, by decide⟩ va_P_nil rfl rfl (Nat.le_of_ble_eq_true rfl) dX4_part_14 ⟨Nat.zero_le _, Nat.zero_le _⟩ ?_
    obtain rfl := Option.some.inj h
    exact hQ _ _ dX4_part_17
  · have h := if_t h c1
    refine lv_iload_n hx hb dX4_part_4 rfl (lv_at hl 1 rfl) ?_
    refine lv_iload_n hx hb dX4_part_5 rfl (lv_at hl 2 rfl) ?_
    obtain ⟨x4, h5, h⟩ := bd_s h
    refine cR_S (As := [.int y1, .int y2]) (rest := []) (n := 2) (v := .int x4) hx hb hml hown hts hK hN hl.1 (c_X4_upper l D k y1 y2 x4 h5) gX4_part_X4_upper rfl (by decide +kernel) ⟨⟨rfl, rfl⟩, by decide, by decide⟩ va_P_nil rfl rfl (Nat.le_of_ble_eq_true rfl) dX4_part_6 ⟨Nat.zero_le _, Nat.zero_le _⟩ ?_
    refine lv_goto (tgt := 17) hx hb dX4_part_9 (by decide) ?_
    obtain rfl := Option.some.inj h
    exact hQ _ _ dX4_part_17

abbrev rm_J13_bitCount_95d88 : Room := { frames := 0, cells := 0, slots := 0, locals := 0 }
def f_J13_bitCount_95d88 (y0 : Int64) : Option (Int32) := some (((((((((((y0 - ((((y0 : Int64).toUInt64 >>> ((1 : Int32).toInt64.toUInt64 &&& Int64.toUInt64 63)).toInt64) &&& (6148914691236517205 : Int64))) &&& (3689348814741910323 : Int64)) + (((((y0 - ((((y0 : Int64).toUInt64 >>> ((1 : Int32).toInt64.toUInt64 &&& Int64.toUInt64 63)).toInt64) &&& (6148914691236517205 : Int64))) : Int64).toUInt64 >>> ((2 : Int32).toInt64.toUInt64 &&& Int64.toUInt64 63)).toInt64) &&& (3689348814741910323 : Int64))) + ((((((y0 - ((((y0 : Int64).toUInt64 >>> ((1 : Int32).toInt64.toUInt64 &&& Int64.toUInt64 63)).toInt64) &&& (6148914691236517205 : Int64))) &&& (3689348814741910323 : Int64)) + (((((y0 - ((((y0 : Int64).toUInt64 >>> ((1 : Int32).toInt64.toUInt64 &&& Int64.toUInt64 63)).toInt64) &&& (6148914691236517205 : Int64))) : Int64).toUInt64 >>> ((2 : Int32).toInt64.toUInt64 &&& Int64.toUInt64 63)).toInt64) &&& (3689348814741910323 : Int64))) : Int64).toUInt64 >>> ((4 : Int32).toInt64.toUInt64 &&& Int64.toUInt64 63)).toInt64)) &&& (1085102592571150095 : Int64)) + ((((((((y0 - ((((y0 : Int64).toUInt64 >>> ((1 : Int32).toInt64.toUInt64 &&& Int64.toUInt64 63)).toInt64) &&& (6148914691236517205 : Int64))) &&& (3689348814741910323 : Int64)) + (((((y0 - ((((y0 : Int64).toUInt64 >>> ((1 : Int32).toInt64.toUInt64 &&& Int64.toUInt64 63)).toInt64) &&& (6148914691236517205 : Int64))) : Int64).toUInt64 >>> ((2 : Int32).toInt64.toUInt64 &&& Int64.toUInt64 63)).toInt64) &&& (3689348814741910323 : Int64))) + ((((((y0 - ((((y0 : Int64).toUInt64 >>> ((1 : Int32).toInt64.toUInt64 &&& Int64.toUInt64 63)).toInt64) &&& (6148914691236517205 : Int64))) &&& (3689348814741910323 : Int64)) + (((((y0 - ((((y0 : Int64).toUInt64 >>> ((1 : Int32).toInt64.toUInt64 &&& Int64.toUInt64 63)).toInt64) &&& (6148914691236517205 : Int64))) : Int64).toUInt64 >>> ((2 : Int32).toInt64.toUInt64 &&& Int64.toUInt64 63)).toInt64) &&& (3689348814741910323 : Int64))) : Int64).toUInt64 >>> ((4 : Int32).toInt64.toUInt64 &&& Int64.toUInt64 63)).toInt64)) &&& (1085102592571150095 : Int64)) : Int64).toUInt64 >>> ((8 : Int32).toInt64.toUInt64 &&& Int64.toUInt64 63)).toInt64)) + (((((((((y0 - ((((y0 : Int64).toUInt64 >>> ((1 : Int32).toInt64.toUInt64 &&& Int64.toUInt64 63)).toInt64) &&& (6148914691236517205 : Int64))) &&& (3689348814741910323 : Int64)) + (((((y0 - ((((y0 : Int64).toUInt64 >>> ((1 : Int32).toInt64.toUInt64 &&& Int64.toUInt64 63)).toInt64) &&& (6148914691236517205 : Int64))) : Int64).toUInt64 >>> ((2 : Int32).toInt64.toUInt64 &&& Int64.toUInt64 63)).toInt64) &&& (3689348814741910323 : Int64))) + ((((((y0 - ((((y0 : Int64).toUInt64 >>> ((1 : Int32).toInt64.toUInt64 &&& Int64.toUInt64 63)).toInt64) &&& (6148914691236517205 : Int64))) &&& (3689348814741910323 : Int64)) + (((((y0 - ((((y0 : Int64).toUInt64 >>> ((1 : Int32).toInt64.toUInt64 &&& Int64.toUInt64 63)).toInt64) &&& (6148914691236517205 : Int64))) : Int64).toUInt64 >>> ((2 : Int32).toInt64.toUInt64 &&& Int64.toUInt64 63)).toInt64) &&& (3689348814741910323 : Int64))) : Int64).toUInt64 >>> ((4 : Int32).toInt64.toUInt64 &&& Int64.toUInt64 63)).toInt64)) &&& (1085102592571150095 : Int64)) + ((((((((y0 - ((((y0 : Int64).toUInt64 >>> ((1 : Int32).toInt64.toUInt64 &&& Int64.toUInt64 63)).toInt64) &&& (6148914691236517205 : Int64))) &&& (3689348814741910323 : Int64)) + (((((y0 - ((((y0 : Int64).toUInt64 >>> ((1 : Int32).toInt64.toUInt64 &&& Int64.toUInt64 63)).toInt64) &&& (6148914691236517205 : Int64))) : Int64).toUInt64 >>> ((2 : Int32).toInt64.toUInt64 &&& Int64.toUInt64 63)).toInt64) &&& (3689348814741910323 : Int64))) + ((((((y0 - ((((y0 : Int64).toUInt64 >>> ((1 : Int32).toInt64.toUInt64 &&& Int64.toUInt64 63)).toInt64) &&& (6148914691236517205 : Int64))) &&& (3689348814741910323 : Int64)) + (((((y0 - ((((y0 : Int64).toUInt64 >>> ((1 : Int32).toInt64.toUInt64 &&& Int64.toUInt64 63)).toInt64) &&& (6148914691236517205 : Int64))) : Int64).toUInt64 >>> ((2 : Int32).toInt64.toUInt64 &&& Int64.toUInt64 63)).toInt64) &&& (3689348814741910323 : Int64))) : Int64).toUInt64 >>> ((4 : Int32).toInt64.toUInt64 &&& Int64.toUInt64 63)).toInt64)) &&& (1085102592571150095 : Int64)) : Int64).toUInt64 >>> ((8 : Int32).toInt64.toUInt64 &&& Int64.toUInt64 63)).toInt64)) : Int64).toUInt64 >>> ((16 : Int32).toInt64.toUInt64 &&& Int64.toUInt64 63)).toInt64)) + ((((((((((y0 - ((((y0 : Int64).toUInt64 >>> ((1 : Int32).toInt64.toUInt64 &&& Int64.toUInt64 63)).toInt64) &&& (6148914691236517205 : Int64))) &&& (3689348814741910323 : Int64)) + (((((y0 - ((((y0 : Int64).toUInt64 >>> ((1 : Int32).toInt64.toUInt64 &&& Int64.toUInt64 63)).toInt64) &&& (6148914691236517205 : Int64))) : Int64).toUInt64 >>> ((2 : Int32).toInt64.toUInt64 &&& Int64.toUInt64 63)).toInt64) &&& (3689348814741910323 : Int64))) + ((((((y0 - ((((y0 : Int64).toUInt64 >>> ((1 : Int32).toInt64.toUInt64 &&& Int64.toUInt64 63)).toInt64) &&& (6148914691236517205 : Int64))) &&& (3689348814741910323 : Int64)) + (((((y0 - ((((y0 : Int64).toUInt64 >>> ((1 : Int32).toInt64.toUInt64 &&& Int64.toUInt64 63)).toInt64) &&& (6148914691236517205 : Int64))) : Int64).toUInt64 >>> ((2 : Int32).toInt64.toUInt64 &&& Int64.toUInt64 63)).toInt64) &&& (3689348814741910323 : Int64))) : Int64).toUInt64 >>> ((4 : Int32).toInt64.toUInt64 &&& Int64.toUInt64 63)).toInt64)) &&& (1085102592571150095 : Int64)) + ((((((((y0 - ((((y0 : Int64).toUInt64 >>> ((1 : Int32).toInt64.toUInt64 &&& Int64.toUInt64 63)).toInt64) &&& (6148914691236517205 : Int64))) &&& (3689348814741910323 : Int64)) + (((((y0 - ((((y0 : Int64).toUInt64 >>> ((1 : Int32).toInt64.toUInt64 &&& Int64.toUInt64 63)).toInt64) &&& (6148914691236517205 : Int64))) : Int64).toUInt64 >>> ((2 : Int32).toInt64.toUInt64 &&& Int64.toUInt64 63)).toInt64) &&& (3689348814741910323 : Int64))) + ((((((y0 - ((((y0 : Int64).toUInt64 >>> ((1 : Int32).toInt64.toUInt64 &&& Int64.toUInt64 63)).toInt64) &&& (6148914691236517205 : Int64))) &&& (3689348814741910323 : Int64)) + (((((y0 - ((((y0 : Int64).toUInt64 >>> ((1 : Int32).toInt64.toUInt64 &&& Int64.toUInt64 63)).toInt64) &&& (6148914691236517205 : Int64))) : Int64).toUInt64 >>> ((2 : Int32).toInt64.toUInt64 &&& Int64.toUInt64 63)).toInt64) &&& (3689348814741910323 : Int64))) : Int64).toUInt64 >>> ((4 : Int32).toInt64.toUInt64 &&& Int64.toUInt64 63)).toInt64)) &&& (1085102592571150095 : Int64)) : Int64).toUInt64 >>> ((8 : Int32).toInt64.toUInt64 &&& Int64.toUInt64 63)).toInt64)) + (((((((((y0 - ((((y0 : Int64).toUInt64 >>> ((1 : Int32).toInt64.toUInt64 &&& Int64.toUInt64 63)).toInt64) &&& (6148914691236517205 : Int64))) &&& (3689348814741910323 : Int64)) + (((((y0 - ((((y0 : Int64).toUInt64 >>> ((1 : Int32).toInt64.toUInt64 &&& Int64.toUInt64 63)).toInt64) &&& (6148914691236517205 : Int64))) : Int64).toUInt64 >>> ((2 : Int32).toInt64.toUInt64 &&& Int64.toUInt64 63)).toInt64) &&& (3689348814741910323 : Int64))) + ((((((y0 - ((((y0 : Int64).toUInt64 >>> ((1 : Int32).toInt64.toUInt64 &&& Int64.toUInt64 63)).toInt64) &&& (6148914691236517205 : Int64))) &&& (3689348814741910323 : Int64)) + (((((y0 - ((((y0 : Int64).toUInt64 >>> ((1 : Int32).toInt64.toUInt64 &&& Int64.toUInt64 63)).toInt64) &&& (6148914691236517205 : Int64))) : Int64).toUInt64 >>> ((2 : Int32).toInt64.toUInt64 &&& Int64.toUInt64 63)).toInt64) &&& (3689348814741910323 : Int64))) : Int64).toUInt64 >>> ((4 : Int32).toInt64.toUInt64 &&& Int64.toUInt64 63)).toInt64)) &&& (1085102592571150095 : Int64)) + ((((((((y0 - ((((y0 : Int64).toUInt64 >>> ((1 : Int32).toInt64.toUInt64 &&& Int64.toUInt64 63)).toInt64) &&& (6148914691236517205 : Int64))) &&& (3689348814741910323 : Int64)) + (((((y0 - ((((y0 : Int64).toUInt64 >>> ((1 : Int32).toInt64.toUInt64 &&& Int64.toUInt64 63)).toInt64) &&& (6148914691236517205 : Int64))) : Int64).toUInt64 >>> ((2 : Int32).toInt64.toUInt64 &&& Int64.toUInt64 63)).toInt64) &&& (3689348814741910323 : Int64))) + ((((((y0 - ((((y0 : Int64).toUInt64 >>> ((1 : Int32).toInt64.toUInt64 &&& Int64.toUInt64 63)).toInt64) &&& (6148914691236517205 : Int64))) &&& (3689348814741910323 : Int64)) + (((((y0 - ((((y0 : Int64).toUInt64 >>> ((1 : Int32).toInt64.toUInt64 &&& Int64.toUInt64 63)).toInt64) &&& (6148914691236517205 : Int64))) : Int64).toUInt64 >>> ((2 : Int32).toInt64.toUInt64 &&& Int64.toUInt64 63)).toInt64) &&& (3689348814741910323 : Int64))) : Int64).toUInt64 >>> ((4 : Int32).toInt64.toUInt64 &&& Int64.toUInt64 63)).toInt64)) &&& (1085102592571150095 : Int64)) : Int64).toUInt64 >>> ((8 : Int32).toInt64.toUInt64 &&& Int64.toUInt64 63)).toInt64)) : Int64).toUInt64 >>> ((16 : Int32).toInt64.toUInt64 &&& Int64.toUInt64 63)).toInt64)) : Int64).toUInt64 >>> ((32 : Int32).toInt64.toUInt64 &&& Int64.toUInt64 63)).toInt64)) : Int64).toInt32) &&& 127)
set_option maxHeartbeats 4000000 in
set_option maxRecDepth 100000 in
theorem c_J13_bitCount_95d88 (l : Launch) (D : va_G) (k : Nat → ClassId) (y0 : Int64) (r : Int32) (h : f_J13_bitCount_95d88 y0 = some r) : Met l yJ13_bitCount_95d88 wsJ13_bitCount_95d88 rm_J13_bitCount_95d88 (va_Pc [.long y0] (RB D k ([]))) (QR (some (.int r))) 0 0 (fun _ => False) := by
  refine met_Ri (by decide) rfl (Nat.le_of_ble_eq_true rfl) ?_
  intro p e s m below meth c Q args ls hx hb hml hown hts hP hK hN hl hQ
  have hl : lv_has ls 2 [(0, .long y0)] := hl
  have hown : s.vm.findClass RJ13 = some m.cls := hown
  unfold f_J13_bitCount_95d88 at h
  refine lv_lload_n hx hb dJ13_bitCount_95d88_0 rfl (lv_at hl 0 rfl) ?_
  refine lv_lload_n hx hb dJ13_bitCount_95d88_1 rfl (lv_at hl 0 rfl) ?_
  refine lv_iconst (v := 1) hx hb dJ13_bitCount_95d88_2 (by decide) ?_
  refine lv_lushr (v := ((y0 : Int64).toUInt64 >>> ((1 : Int32).toInt64.toUInt64 &&& Int64.toUInt64 63)).toInt64) hx hb dJ13_bitCount_95d88_3 rfl ?_
  refine lv_ldc2 hx hb hown (hts (.constantLong RJ13 314 (6148914691236517205)) (by decide +kernel)) dJ13_bitCount_95d88_4 ?_
  refine lv_land hx hb dJ13_bitCount_95d88_7 ?_
  refine lv_lsub hx hb dJ13_bitCount_95d88_8 ?_
  refine lv_lstore_n (lv' := [(0, .long (y0 - ((((y0 : Int64).toUInt64 >>> ((1 : Int32).toInt64.toUInt64 &&& Int64.toUInt64 63)).toInt64) &&& (6148914691236517205 : Int64))))]) hx hb dJ13_bitCount_95d88_9 rfl hl (by decide) rfl (fun ls hl => ?_)
  refine lv_lload_n hx hb dJ13_bitCount_95d88_10 rfl (lv_at hl 0 rfl) ?_
  refine lv_ldc2 hx hb hown (hts (.constantLong RJ13 316 (3689348814741910323)) (by decide +kernel)) dJ13_bitCount_95d88_11 ?_
  refine lv_land hx hb dJ13_bitCount_95d88_14 ?_
  refine lv_lload_n hx hb dJ13_bitCount_95d88_15 rfl (lv_at hl 0 rfl) ?_
  refine lv_iconst (v := 2) hx hb dJ13_bitCount_95d88_16 (by decide) ?_
  refine lv_lushr (v := (((y0 - ((((y0 : Int64).toUInt64 >>> ((1 : Int32).toInt64.toUInt64 &&& Int64.toUInt64 63)).toInt64) &&& (6148914691236517205 : Int64))) : Int64).toUInt64 >>> ((2 : Int32).toInt64.toUInt64 &&& Int64.toUInt64 63)).toInt64) hx hb dJ13_bitCount_95d88_17 rfl ?_
  refine lv_ldc2 hx hb hown (hts (.constantLong RJ13 316 (3689348814741910323)) (by decide +kernel)) dJ13_bitCount_95d88_18 ?_
  refine lv_land hx hb dJ13_bitCount_95d88_21 ?_
  refine lv_ladd hx hb dJ13_bitCount_95d88_22 ?_
  refine lv_lstore_n (lv' := [(0, .long (((y0 - ((((y0 : Int64).toUInt64 >>> ((1 : Int32).toInt64.toUInt64 &&& Int64.toUInt64 63)).toInt64) &&& (6148914691236517205 : Int64))) &&& (3689348814741910323 : Int64)) + (((((y0 - ((((y0 : Int64).toUInt64 >>> ((1 : Int32).toInt64.toUInt64 &&& Int64.toUInt64 63)).toInt64) &&& (6148914691236517205 : Int64))) : Int64).toUInt64 >>> ((2 : Int32).toInt64.toUInt64 &&& Int64.toUInt64 63)).toInt64) &&& (3689348814741910323 : Int64))))]) hx hb dJ13_bitCount_95d88_23 rfl hl (by decide) rfl (fun ls hl => ?_)
  refine lv_lload_n hx hb dJ13_bitCount_95d88_24 rfl (lv_at hl 0 rfl) ?_
  refine lv_lload_n hx hb dJ13_bitCount_95d88_25 rfl (lv_at hl 0 rfl) ?_
  refine lv_iconst (v := 4) hx hb dJ13_bitCount_95d88_26 (by decide) ?_
  refine lv_lushr (v := (((((y0 - ((((y0 : Int64).toUInt64 >>> ((1 : Int32).toInt64.toUInt64 &&& Int64.toUInt64 63)).toInt64) &&& (6148914691236517205 : Int64))) &&& (3689348814741910323 : Int64)) + (((((y0 - ((((y0 : Int64).toUInt64 >>> ((1 : Int32).toInt64.toUInt64 &&& Int64.toUInt64 63)).toInt64) &&& (6148914691236517205 : Int64))) : Int64).toUInt64 >>> ((2 : Int32).toInt64.toUInt64 &&& Int64.toUInt64 63)).toInt64) &&& (3689348814741910323 : Int64))) : Int64).toUInt64 >>> ((4 : Int32).toInt64.toUInt64 &&& Int64.toUInt64 63)).toInt64) hx hb dJ13_bitCount_95d88_27 rfl ?_
  refine lv_ladd hx hb dJ13_bitCount_95d88_28 ?_
  refine lv_ldc2 hx hb hown (hts (.constantLong RJ13 318 (1085102592571150095)) (by decide +kernel)) dJ13_bitCount_95d88_29 ?_
  refine lv_land hx hb dJ13_bitCount_95d88_32 ?_
  refine lv_lstore_n (lv' := [(0, .long (((((y0 - ((((y0 : Int64).toUInt64 >>> ((1 : Int32).toInt64.toUInt64 &&& Int64.toUInt64 63)).toInt64) &&& (6148914691236517205 : Int64))) &&& (3689348814741910323 : Int64)) + (((((y0 - ((((y0 : Int64).toUInt64 >>> ((1 : Int32).toInt64.toUInt64 &&& Int64.toUInt64 63)).toInt64) &&& (6148914691236517205 : Int64))) : Int64).toUInt64 >>> ((2 : Int32).toInt64.toUInt64 &&& Int64.toUInt64 63)).toInt64) &&& (3689348814741910323 : Int64))) + ((((((y0 - ((((y0 : Int64).toUInt64 >>> ((1 : Int32).toInt64.toUInt64 &&& Int64.toUInt64 63)).toInt64) &&& (6148914691236517205 : Int64))) &&& (3689348814741910323 : Int64)) + (((((y0 - ((((y0 : Int64).toUInt64 >>> ((1 : Int32).toInt64.toUInt64 &&& Int64.toUInt64 63)).toInt64) &&& (6148914691236517205 : Int64))) : Int64).toUInt64 >>> ((2 : Int32).toInt64.toUInt64 &&& Int64.toUInt64 63)).toInt64) &&& (3689348814741910323 : Int64))) : Int64).toUInt64 >>> ((4 : Int32).toInt64.toUInt64 &&& Int64.toUInt64 63)).toInt64)) &&& (1085102592571150095 : Int64)))]) hx hb dJ13_bitCount_95d88_33 rfl hl (by decide) rfl (fun ls hl => ?_)
  refine lv_lload_n hx hb dJ13_bitCount_95d88_34 rfl (lv_at hl 0 rfl) ?_
  refine lv_lload_n hx hb dJ13_bitCount_95d88_35 rfl (lv_at hl 0 rfl) ?_
  refine lv_bipush (v := 8) hx hb dJ13_bitCount_95d88_36 (by decide) ?_
  refine lv_lushr (v := (((((((y0 - ((((y0 : Int64).toUInt64 >>> ((1 : Int32).toInt64.toUInt64 &&& Int64.toUInt64 63)).toInt64) &&& (6148914691236517205 : Int64))) &&& (3689348814741910323 : Int64)) + (((((y0 - ((((y0 : Int64).toUInt64 >>> ((1 : Int32).toInt64.toUInt64 &&& Int64.toUInt64 63)).toInt64) &&& (6148914691236517205 : Int64))) : Int64).toUInt64 >>> ((2 : Int32).toInt64.toUInt64 &&& Int64.toUInt64 63)).toInt64) &&& (3689348814741910323 : Int64))) + ((((((y0 - ((((y0 : Int64).toUInt64 >>> ((1 : Int32).toInt64.toUInt64 &&& Int64.toUInt64 63)).toInt64) &&& (6148914691236517205 : Int64))) &&& (3689348814741910323 : Int64)) + (((((y0 - ((((y0 : Int64).toUInt64 >>> ((1 : Int32).toInt64.toUInt64 &&& Int64.toUInt64 63)).toInt64) &&& (6148914691236517205 : Int64))) : Int64).toUInt64 >>> ((2 : Int32).toInt64.toUInt64 &&& Int64.toUInt64 63)).toInt64) &&& (3689348814741910323 : Int64))) : Int64).toUInt64 >>> ((4 : Int32).toInt64.toUInt64 &&& Int64.toUInt64 63)).toInt64)) &&& (1085102592571150095 : Int64)) : Int64).toUInt64 >>> ((8 : Int32).toInt64.toUInt64 &&& Int64.toUInt64 63)).toInt64) hx hb dJ13_bitCount_95d88_38 rfl ?_
  refine lv_ladd hx hb dJ13_bitCount_95d88_39 ?_
  refine lv_lstore_n (lv' := [(0, .long ((((((y0 - ((((y0 : Int64).toUInt64 >>> ((1 : Int32).toInt64.toUInt64 &&& Int64.toUInt64 63)).toInt64) &&& (6148914691236517205 : Int64))) &&& (3689348814741910323 : Int64)) + (((((y0 - ((((y0 : Int64).toUInt64 >>> ((1 : Int32).toInt64.toUInt64 &&& Int64.toUInt64 63)).toInt64) &&& (6148914691236517205 : Int64))) : Int64).toUInt64 >>> ((2 : Int32).toInt64.toUInt64 &&& Int64.toUInt64 63)).toInt64) &&& (3689348814741910323 : Int64))) + ((((((y0 - ((((y0 : Int64).toUInt64 >>> ((1 : Int32).toInt64.toUInt64 &&& Int64.toUInt64 63)).toInt64) &&& (6148914691236517205 : Int64))) &&& (3689348814741910323 : Int64)) + (((((y0 - ((((y0 : Int64).toUInt64 >>> ((1 : Int32).toInt64.toUInt64 &&& Int64.toUInt64 63)).toInt64) &&& (6148914691236517205 : Int64))) : Int64).toUInt64 >>> ((2 : Int32).toInt64.toUInt64 &&& Int64.toUInt64 63)).toInt64) &&& (3689348814741910323 : Int64))) : Int64).toUInt64 >>> ((4 : Int32).toInt64.toUInt64 &&& Int64.toUInt64 63)).toInt64)) &&& (1085102592571150095 : Int64)) + ((((((((y0 - ((((y0 : Int64).toUInt64 >>> ((1 : Int32).toInt64.toUInt64 &&& Int64.toUInt64 63)).toInt64) &&& (6148914691236517205 : Int64))) &&& (3689348814741910323 : Int64)) + (((((y0 - ((((y0 : Int64).toUInt64 >>> ((1 : Int32).toInt64.toUInt64 &&& Int64.toUInt64 63)).toInt64) &&& (6148914691236517205 : Int64))) : Int64).toUInt64 >>> ((2 : Int32).toInt64.toUInt64 &&& Int64.toUInt64 63)).toInt64) &&& (3689348814741910323 : Int64))) + ((((((y0 - ((((y0 : Int64).toUInt64 >>> ((1 : Int32).toInt64.toUInt64 &&& Int64.toUInt64 63)).toInt64) &&& (6148914691236517205 : Int64))) &&& (3689348814741910323 : Int64)) + (((((y0 - ((((y0 : Int64).toUInt64 >>> ((1 : Int32).toInt64.toUInt64 &&& Int64.toUInt64 63)).toInt64) &&& (6148914691236517205 : Int64))) : Int64).toUInt64 >>> ((2 : Int32).toInt64.toUInt64 &&& Int64.toUInt64 63)).toInt64) &&& (3689348814741910323 : Int64))) : Int64).toUInt64 >>> ((4 : Int32).toInt64.toUInt64 &&& Int64.toUInt64 63)).toInt64)) &&& (1085102592571150095 : Int64)) : Int64).toUInt64 >>> ((8 : Int32).toInt64.toUInt64 &&& Int64.toUInt64 63)).toInt64)))]) hx hb dJ13_bitCount_95d88_40 rfl hl (by decide) rfl (fun ls hl => ?_)
  refine lv_lload_n hx hb dJ13_bitCount_95d88_41 rfl (lv_at hl 0 rfl) ?_
  refine lv_lload_n hx hb dJ13_bitCount_95d88_42 rfl (lv_at hl 0 rfl) ?_
  refine lv_bipush (v := 16) hx hb dJ13_bitCount_95d88_43 (by decide) ?_
  refine lv_lushr (v := ((((((((y0 - ((((y0 : Int64).toUInt64 >>> ((1 : Int32).toInt64.toUInt64 &&& Int64.toUInt64 63)).toInt64) &&& (6148914691236517205 : Int64))) &&& (3689348814741910323 : Int64)) + (((((y0 - ((((y0 : Int64).toUInt64 >>> ((1 : Int32).toInt64.toUInt64 &&& Int64.toUInt64 63)).toInt64) &&& (6148914691236517205 : Int64))) : Int64).toUInt64 >>> ((2 : Int32).toInt64.toUInt64 &&& Int64.toUInt64 63)).toInt64) &&& (3689348814741910323 : Int64))) + ((((((y0 - ((((y0 : Int64).toUInt64 >>> ((1 : Int32).toInt64.toUInt64 &&& Int64.toUInt64 63)).toInt64) &&& (6148914691236517205 : Int64))) &&& (3689348814741910323 : Int64)) + (((((y0 - ((((y0 : Int64).toUInt64 >>> ((1 : Int32).toInt64.toUInt64 &&& Int64.toUInt64 63)).toInt64) &&& (6148914691236517205 : Int64))) : Int64).toUInt64 >>> ((2 : Int32).toInt64.toUInt64 &&& Int64.toUInt64 63)).toInt64) &&& (3689348814741910323 : Int64))) : Int64).toUInt64 >>> ((4 : Int32).toInt64.toUInt64 &&& Int64.toUInt64 63)).toInt64)) &&& (1085102592571150095 : Int64)) + ((((((((y0 - ((((y0 : Int64).toUInt64 >>> ((1 : Int32).toInt64.toUInt64 &&& Int64.toUInt64 63)).toInt64) &&& (6148914691236517205 : Int64))) &&& (3689348814741910323 : Int64)) + (((((y0 - ((((y0 : Int64).toUInt64 >>> ((1 : Int32).toInt64.toUInt64 &&& Int64.toUInt64 63)).toInt64) &&& (6148914691236517205 : Int64))) : Int64).toUInt64 >>> ((2 : Int32).toInt64.toUInt64 &&& Int64.toUInt64 63)).toInt64) &&& (3689348814741910323 : Int64))) + ((((((y0 - ((((y0 : Int64).toUInt64 >>> ((1 : Int32).toInt64.toUInt64 &&& Int64.toUInt64 63)).toInt64) &&& (6148914691236517205 : Int64))) &&& (3689348814741910323 : Int64)) + (((((y0 - ((((y0 : Int64).toUInt64 >>> ((1 : Int32).toInt64.toUInt64 &&& Int64.toUInt64 63)).toInt64) &&& (6148914691236517205 : Int64))) : Int64).toUInt64 >>> ((2 : Int32).toInt64.toUInt64 &&& Int64.toUInt64 63)).toInt64) &&& (3689348814741910323 : Int64))) : Int64).toUInt64 >>> ((4 : Int32).toInt64.toUInt64 &&& Int64.toUInt64 63)).toInt64)) &&& (1085102592571150095 : Int64)) : Int64).toUInt64 >>> ((8 : Int32).toInt64.toUInt64 &&& Int64.toUInt64 63)).toInt64)) : Int64).toUInt64 >>> ((16 : Int32).toInt64.toUInt64 &&& Int64.toUInt64 63)).toInt64) hx hb dJ13_bitCount_95d88_45 rfl ?_
  refine lv_ladd hx hb dJ13_bitCount_95d88_46 ?_
  refine lv_lstore_n (lv' := [(0, .long (((((((y0 - ((((y0 : Int64).toUInt64 >>> ((1 : Int32).toInt64.toUInt64 &&& Int64.toUInt64 63)).toInt64) &&& (6148914691236517205 : Int64))) &&& (3689348814741910323 : Int64)) + (((((y0 - ((((y0 : Int64).toUInt64 >>> ((1 : Int32).toInt64.toUInt64 &&& Int64.toUInt64 63)).toInt64) &&& (6148914691236517205 : Int64))) : Int64).toUInt64 >>> ((2 : Int32).toInt64.toUInt64 &&& Int64.toUInt64 63)).toInt64) &&& (3689348814741910323 : Int64))) + ((((((y0 - ((((y0 : Int64).toUInt64 >>> ((1 : Int32).toInt64.toUInt64 &&& Int64.toUInt64 63)).toInt64) &&& (6148914691236517205 : Int64))) &&& (3689348814741910323 : Int64)) + (((((y0 - ((((y0 : Int64).toUInt64 >>> ((1 : Int32).toInt64.toUInt64 &&& Int64.toUInt64 63)).toInt64) &&& (6148914691236517205 : Int64))) : Int64).toUInt64 >>> ((2 : Int32).toInt64.toUInt64 &&& Int64.toUInt64 63)).toInt64) &&& (3689348814741910323 : Int64))) : Int64).toUInt64 >>> ((4 : Int32).toInt64.toUInt64 &&& Int64.toUInt64 63)).toInt64)) &&& (1085102592571150095 : Int64)) + ((((((((y0 - ((((y0 : Int64).toUInt64 >>> ((1 : Int32).toInt64.toUInt64 &&& Int64.toUInt64 63)).toInt64) &&& (6148914691236517205 : Int64))) &&& (3689348814741910323 : Int64)) + (((((y0 - ((((y0 : Int64).toUInt64 >>> ((1 : Int32).toInt64.toUInt64 &&& Int64.toUInt64 63)).toInt64) &&& (6148914691236517205 : Int64))) : Int64).toUInt64 >>> ((2 : Int32).toInt64.toUInt64 &&& Int64.toUInt64 63)).toInt64) &&& (3689348814741910323 : Int64))) + ((((((y0 - ((((y0 : Int64).toUInt64 >>> ((1 : Int32).toInt64.toUInt64 &&& Int64.toUInt64 63)).toInt64) &&& (6148914691236517205 : Int64))) &&& (3689348814741910323 : Int64)) + (((((y0 - ((((y0 : Int64).toUInt64 >>> ((1 : Int32).toInt64.toUInt64 &&& Int64.toUInt64 63)).toInt64) &&& (6148914691236517205 : Int64))) : Int64).toUInt64 >>> ((2 : Int32).toInt64.toUInt64 &&& Int64.toUInt64 63)).toInt64) &&& (3689348814741910323 : Int64))) : Int64).toUInt64 >>> ((4 : Int32).toInt64.toUInt64 &&& Int64.toUInt64 63)).toInt64)) &&& (1085102592571150095 : Int64)) : Int64).toUInt64 >>> ((8 : Int32).toInt64.toUInt64 &&& Int64.toUInt64 63)).toInt64)) + (((((((((y0 - ((((y0 : Int64).toUInt64 >>> ((1 : Int32).toInt64.toUInt64 &&& Int64.toUInt64 63)).toInt64) &&& (6148914691236517205 : Int64))) &&& (3689348814741910323 : Int64)) + (((((y0 - ((((y0 : Int64).toUInt64 >>> ((1 : Int32).toInt64.toUInt64 &&& Int64.toUInt64 63)).toInt64) &&& (6148914691236517205 : Int64))) : Int64).toUInt64 >>> ((2 : Int32).toInt64.toUInt64 &&& Int64.toUInt64 63)).toInt64) &&& (3689348814741910323 : Int64))) + ((((((y0 - ((((y0 : Int64).toUInt64 >>> ((1 : Int32).toInt64.toUInt64 &&& Int64.toUInt64 63)).toInt64) &&& (6148914691236517205 : Int64))) &&& (3689348814741910323 : Int64)) + (((((y0 - ((((y0 : Int64).toUInt64 >>> ((1 : Int32).toInt64.toUInt64 &&& Int64.toUInt64 63)).toInt64) &&& (6148914691236517205 : Int64))) : Int64).toUInt64 >>> ((2 : Int32).toInt64.toUInt64 &&& Int64.toUInt64 63)).toInt64) &&& (3689348814741910323 : Int64))) : Int64).toUInt64 >>> ((4 : Int32).toInt64.toUInt64 &&& Int64.toUInt64 63)).toInt64)) &&& (1085102592571150095 : Int64)) + ((((((((y0 - ((((y0 : Int64).toUInt64 >>> ((1 : Int32).toInt64.toUInt64 &&& Int64.toUInt64 63)).toInt64) &&& (6148914691236517205 : Int64))) &&& (3689348814741910323 : Int64)) + (((((y0 - ((((y0 : Int64).toUInt64 >>> ((1 : Int32).toInt64.toUInt64 &&& Int64.toUInt64 63)).toInt64) &&& (6148914691236517205 : Int64))) : Int64).toUInt64 >>> ((2 : Int32).toInt64.toUInt64 &&& Int64.toUInt64 63)).toInt64) &&& (3689348814741910323 : Int64))) + ((((((y0 - ((((y0 : Int64).toUInt64 >>> ((1 : Int32).toInt64.toUInt64 &&& Int64.toUInt64 63)).toInt64) &&& (6148914691236517205 : Int64))) &&& (3689348814741910323 : Int64)) + (((((y0 - ((((y0 : Int64).toUInt64 >>> ((1 : Int32).toInt64.toUInt64 &&& Int64.toUInt64 63)).toInt64) &&& (6148914691236517205 : Int64))) : Int64).toUInt64 >>> ((2 : Int32).toInt64.toUInt64 &&& Int64.toUInt64 63)).toInt64) &&& (3689348814741910323 : Int64))) : Int64).toUInt64 >>> ((4 : Int32).toInt64.toUInt64 &&& Int64.toUInt64 63)).toInt64)) &&& (1085102592571150095 : Int64)) : Int64).toUInt64 >>> ((8 : Int32).toInt64.toUInt64 &&& Int64.toUInt64 63)).toInt64)) : Int64).toUInt64 >>> ((16 : Int32).toInt64.toUInt64 &&& Int64.toUInt64 63)).toInt64)))]) hx hb dJ13_bitCount_95d88_47 rfl hl (by decide) rfl (fun ls hl => ?_)
  refine lv_lload_n hx hb dJ13_bitCount_95d88_48 rfl (lv_at hl 0 rfl) ?_
  refine lv_lload_n hx hb dJ13_bitCount_95d88_49 rfl (lv_at hl 0 rfl) ?_
  refine lv_bipush (v := 32) hx hb dJ13_bitCount_95d88_50 (by decide) ?_
  refine lv_lushr (v := (((((((((y0 - ((((y0 : Int64).toUInt64 >>> ((1 : Int32).toInt64.toUInt64 &&& Int64.toUInt64 63)).toInt64) &&& (6148914691236517205 : Int64))) &&& (3689348814741910323 : Int64)) + (((((y0 - ((((y0 : Int64).toUInt64 >>> ((1 : Int32).toInt64.toUInt64 &&& Int64.toUInt64 63)).toInt64) &&& (6148914691236517205 : Int64))) : Int64).toUInt64 >>> ((2 : Int32).toInt64.toUInt64 &&& Int64.toUInt64 63)).toInt64) &&& (3689348814741910323 : Int64))) + ((((((y0 - ((((y0 : Int64).toUInt64 >>> ((1 : Int32).toInt64.toUInt64 &&& Int64.toUInt64 63)).toInt64) &&& (6148914691236517205 : Int64))) &&& (3689348814741910323 : Int64)) + (((((y0 - ((((y0 : Int64).toUInt64 >>> ((1 : Int32).toInt64.toUInt64 &&& Int64.toUInt64 63)).toInt64) &&& (6148914691236517205 : Int64))) : Int64).toUInt64 >>> ((2 : Int32).toInt64.toUInt64 &&& Int64.toUInt64 63)).toInt64) &&& (3689348814741910323 : Int64))) : Int64).toUInt64 >>> ((4 : Int32).toInt64.toUInt64 &&& Int64.toUInt64 63)).toInt64)) &&& (1085102592571150095 : Int64)) + ((((((((y0 - ((((y0 : Int64).toUInt64 >>> ((1 : Int32).toInt64.toUInt64 &&& Int64.toUInt64 63)).toInt64) &&& (6148914691236517205 : Int64))) &&& (3689348814741910323 : Int64)) + (((((y0 - ((((y0 : Int64).toUInt64 >>> ((1 : Int32).toInt64.toUInt64 &&& Int64.toUInt64 63)).toInt64) &&& (6148914691236517205 : Int64))) : Int64).toUInt64 >>> ((2 : Int32).toInt64.toUInt64 &&& Int64.toUInt64 63)).toInt64) &&& (3689348814741910323 : Int64))) + ((((((y0 - ((((y0 : Int64).toUInt64 >>> ((1 : Int32).toInt64.toUInt64 &&& Int64.toUInt64 63)).toInt64) &&& (6148914691236517205 : Int64))) &&& (3689348814741910323 : Int64)) + (((((y0 - ((((y0 : Int64).toUInt64 >>> ((1 : Int32).toInt64.toUInt64 &&& Int64.toUInt64 63)).toInt64) &&& (6148914691236517205 : Int64))) : Int64).toUInt64 >>> ((2 : Int32).toInt64.toUInt64 &&& Int64.toUInt64 63)).toInt64) &&& (3689348814741910323 : Int64))) : Int64).toUInt64 >>> ((4 : Int32).toInt64.toUInt64 &&& Int64.toUInt64 63)).toInt64)) &&& (1085102592571150095 : Int64)) : Int64).toUInt64 >>> ((8 : Int32).toInt64.toUInt64 &&& Int64.toUInt64 63)).toInt64)) + (((((((((y0 - ((((y0 : Int64).toUInt64 >>> ((1 : Int32).toInt64.toUInt64 &&& Int64.toUInt64 63)).toInt64) &&& (6148914691236517205 : Int64))) &&& (3689348814741910323 : Int64)) + (((((y0 - ((((y0 : Int64).toUInt64 >>> ((1 : Int32).toInt64.toUInt64 &&& Int64.toUInt64 63)).toInt64) &&& (6148914691236517205 : Int64))) : Int64).toUInt64 >>> ((2 : Int32).toInt64.toUInt64 &&& Int64.toUInt64 63)).toInt64) &&& (3689348814741910323 : Int64))) + ((((((y0 - ((((y0 : Int64).toUInt64 >>> ((1 : Int32).toInt64.toUInt64 &&& Int64.toUInt64 63)).toInt64) &&& (6148914691236517205 : Int64))) &&& (3689348814741910323 : Int64)) + (((((y0 - ((((y0 : Int64).toUInt64 >>> ((1 : Int32).toInt64.toUInt64 &&& Int64.toUInt64 63)).toInt64) &&& (6148914691236517205 : Int64))) : Int64).toUInt64 >>> ((2 : Int32).toInt64.toUInt64 &&& Int64.toUInt64 63)).toInt64) &&& (3689348814741910323 : Int64))) : Int64).toUInt64 >>> ((4 : Int32).toInt64.toUInt64 &&& Int64.toUInt64 63)).toInt64)) &&& (1085102592571150095 : Int64)) + ((((((((y0 - ((((y0 : Int64).toUInt64 >>> ((1 : Int32).toInt64.toUInt64 &&& Int64.toUInt64 63)).toInt64) &&& (6148914691236517205 : Int64))) &&& (3689348814741910323 : Int64)) + (((((y0 - ((((y0 : Int64).toUInt64 >>> ((1 : Int32).toInt64.toUInt64 &&& Int64.toUInt64 63)).toInt64) &&& (6148914691236517205 : Int64))) : Int64).toUInt64 >>> ((2 : Int32).toInt64.toUInt64 &&& Int64.toUInt64 63)).toInt64) &&& (3689348814741910323 : Int64))) + ((((((y0 - ((((y0 : Int64).toUInt64 >>> ((1 : Int32).toInt64.toUInt64 &&& Int64.toUInt64 63)).toInt64) &&& (6148914691236517205 : Int64))) &&& (3689348814741910323 : Int64)) + (((((y0 - ((((y0 : Int64).toUInt64 >>> ((1 : Int32).toInt64.toUInt64 &&& Int64.toUInt64 63)).toInt64) &&& (6148914691236517205 : Int64))) : Int64).toUInt64 >>> ((2 : Int32).toInt64.toUInt64 &&& Int64.toUInt64 63)).toInt64) &&& (3689348814741910323 : Int64))) : Int64).toUInt64 >>> ((4 : Int32).toInt64.toUInt64 &&& Int64.toUInt64 63)).toInt64)) &&& (1085102592571150095 : Int64)) : Int64).toUInt64 >>> ((8 : Int32).toInt64.toUInt64 &&& Int64.toUInt64 63)).toInt64)) : Int64).toUInt64 >>> ((16 : Int32).toInt64.toUInt64 &&& Int64.toUInt64 63)).toInt64)) : Int64).toUInt64 >>> ((32 : Int32).toInt64.toUInt64 &&& Int64.toUInt64 63)).toInt64) hx hb dJ13_bitCount_95d88_52 rfl ?_
  refine lv_ladd hx hb dJ13_bitCount_95d88_53 ?_
  refine lv_lstore_n (lv' := [(0, .long ((((((((y0 - ((((y0 : Int64).toUInt64 >>> ((1 : Int32).toInt64.toUInt64 &&& Int64.toUInt64 63)).toInt64) &&& (6148914691236517205 : Int64))) &&& (3689348814741910323 : Int64)) + (((((y0 - ((((y0 : Int64).toUInt64 >>> ((1 : Int32).toInt64.toUInt64 &&& Int64.toUInt64 63)).toInt64) &&& (6148914691236517205 : Int64))) : Int64).toUInt64 >>> ((2 : Int32).toInt64.toUInt64 &&& Int64.toUInt64 63)).toInt64) &&& (3689348814741910323 : Int64))) + ((((((y0 - ((((y0 : Int64).toUInt64 >>> ((1 : Int32).toInt64.toUInt64 &&& Int64.toUInt64 63)).toInt64) &&& (6148914691236517205 : Int64))) &&& (3689348814741910323 : Int64)) + (((((y0 - ((((y0 : Int64).toUInt64 >>> ((1 : Int32).toInt64.toUInt64 &&& Int64.toUInt64 63)).toInt64) &&& (6148914691236517205 : Int64))) : Int64).toUInt64 >>> ((2 : Int32).toInt64.toUInt64 &&& Int64.toUInt64 63)).toInt64) &&& (3689348814741910323 : Int64))) : Int64).toUInt64 >>> ((4 : Int32).toInt64.toUInt64 &&& Int64.toUInt64 63)).toInt64)) &&& (1085102592571150095 : Int64)) + ((((((((y0 - ((((y0 : Int64).toUInt64 >>> ((1 : Int32).toInt64.toUInt64 &&& Int64.toUInt64 63)).toInt64) &&& (6148914691236517205 : Int64))) &&& (3689348814741910323 : Int64)) + (((((y0 - ((((y0 : Int64).toUInt64 >>> ((1 : Int32).toInt64.toUInt64 &&& Int64.toUInt64 63)).toInt64) &&& (6148914691236517205 : Int64))) : Int64).toUInt64 >>> ((2 : Int32).toInt64.toUInt64 &&& Int64.toUInt64 63)).toInt64) &&& (3689348814741910323 : Int64))) + ((((((y0 - ((((y0 : Int64).toUInt64 >>> ((1 : Int32).toInt64.toUInt64 &&& Int64.toUInt64 63)).toInt64) &&& (6148914691236517205 : Int64))) &&& (3689348814741910323 : Int64)) + (((((y0 - ((((y0 : Int64).toUInt64 >>> ((1 : Int32).toInt64.toUInt64 &&& Int64.toUInt64 63)).toInt64) &&& (6148914691236517205 : Int64))) : Int64).toUInt64 >>> ((2 : Int32).toInt64.toUInt64 &&& Int64.toUInt64 63)).toInt64) &&& (3689348814741910323 : Int64))) : Int64).toUInt64 >>> ((4 : Int32).toInt64.toUInt64 &&& Int64.toUInt64 63)).toInt64)) &&& (1085102592571150095 : Int64)) : Int64).toUInt64 >>> ((8 : Int32).toInt64.toUInt64 &&& Int64.toUInt64 63)).toInt64)) + (((((((((y0 - ((((y0 : Int64).toUInt64 >>> ((1 : Int32).toInt64.toUInt64 &&& Int64.toUInt64 63)).toInt64) &&& (6148914691236517205 : Int64))) &&& (3689348814741910323 : Int64)) + (((((y0 - ((((y0 : Int64).toUInt64 >>> ((1 : Int32).toInt64.toUInt64 &&& Int64.toUInt64 63)).toInt64) &&& (6148914691236517205 : Int64))) : Int64).toUInt64 >>> ((2 : Int32).toInt64.toUInt64 &&& Int64.toUInt64 63)).toInt64) &&& (3689348814741910323 : Int64))) + ((((((y0 - ((((y0 : Int64).toUInt64 >>> ((1 : Int32).toInt64.toUInt64 &&& Int64.toUInt64 63)).toInt64) &&& (6148914691236517205 : Int64))) &&& (3689348814741910323 : Int64)) + (((((y0 - ((((y0 : Int64).toUInt64 >>> ((1 : Int32).toInt64.toUInt64 &&& Int64.toUInt64 63)).toInt64) &&& (6148914691236517205 : Int64))) : Int64).toUInt64 >>> ((2 : Int32).toInt64.toUInt64 &&& Int64.toUInt64 63)).toInt64) &&& (3689348814741910323 : Int64))) : Int64).toUInt64 >>> ((4 : Int32).toInt64.toUInt64 &&& Int64.toUInt64 63)).toInt64)) &&& (1085102592571150095 : Int64)) + ((((((((y0 - ((((y0 : Int64).toUInt64 >>> ((1 : Int32).toInt64.toUInt64 &&& Int64.toUInt64 63)).toInt64) &&& (6148914691236517205 : Int64))) &&& (3689348814741910323 : Int64)) + (((((y0 - ((((y0 : Int64).toUInt64 >>> ((1 : Int32).toInt64.toUInt64 &&& Int64.toUInt64 63)).toInt64) &&& (6148914691236517205 : Int64))) : Int64).toUInt64 >>> ((2 : Int32).toInt64.toUInt64 &&& Int64.toUInt64 63)).toInt64) &&& (3689348814741910323 : Int64))) + ((((((y0 - ((((y0 : Int64).toUInt64 >>> ((1 : Int32).toInt64.toUInt64 &&& Int64.toUInt64 63)).toInt64) &&& (6148914691236517205 : Int64))) &&& (3689348814741910323 : Int64)) + (((((y0 - ((((y0 : Int64).toUInt64 >>> ((1 : Int32).toInt64.toUInt64 &&& Int64.toUInt64 63)).toInt64) &&& (6148914691236517205 : Int64))) : Int64).toUInt64 >>> ((2 : Int32).toInt64.toUInt64 &&& Int64.toUInt64 63)).toInt64) &&& (3689348814741910323 : Int64))) : Int64).toUInt64 >>> ((4 : Int32).toInt64.toUInt64 &&& Int64.toUInt64 63)).toInt64)) &&& (1085102592571150095 : Int64)) : Int64).toUInt64 >>> ((8 : Int32).toInt64.toUInt64 &&& Int64.toUInt64 63)).toInt64)) : Int64).toUInt64 >>> ((16 : Int32).toInt64.toUInt64 &&& Int64.toUInt64 63)).toInt64)) + ((((((((((y0 - ((((y0 : Int64).toUInt64 >>> ((1 : Int32).toInt64.toUInt64 &&& Int64.toUInt64 63)).toInt64) &&& (6148914691236517205 : Int64))) &&& (3689348814741910323 : Int64)) + (((((y0 - ((((y0 : Int64).toUInt64 >>> ((1 : Int32).toInt64.toUInt64 &&& Int64.toUInt64 63)).toInt64) &&& (6148914691236517205 : Int64))) : Int64).toUInt64 >>> ((2 : Int32).toInt64.toUInt64 &&& Int64.toUInt64 63)).toInt64) &&& (3689348814741910323 : Int64))) + ((((((y0 - ((((y0 : Int64).toUInt64 >>> ((1 : Int32).toInt64.toUInt64 &&& Int64.toUInt64 63)).toInt64) &&& (6148914691236517205 : Int64))) &&& (3689348814741910323 : Int64)) + (((((y0 - ((((y0 : Int64).toUInt64 >>> ((1 : Int32).toInt64.toUInt64 &&& Int64.toUInt64 63)).toInt64) &&& (6148914691236517205 : Int64))) : Int64).toUInt64 >>> ((2 : Int32).toInt64.toUInt64 &&& Int64.toUInt64 63)).toInt64) &&& (3689348814741910323 : Int64))) : Int64).toUInt64 >>> ((4 : Int32).toInt64.toUInt64 &&& Int64.toUInt64 63)).toInt64)) &&& (1085102592571150095 : Int64)) + ((((((((y0 - ((((y0 : Int64).toUInt64 >>> ((1 : Int32).toInt64.toUInt64 &&& Int64.toUInt64 63)).toInt64) &&& (6148914691236517205 : Int64))) &&& (3689348814741910323 : Int64)) + (((((y0 - ((((y0 : Int64).toUInt64 >>> ((1 : Int32).toInt64.toUInt64 &&& Int64.toUInt64 63)).toInt64) &&& (6148914691236517205 : Int64))) : Int64).toUInt64 >>> ((2 : Int32).toInt64.toUInt64 &&& Int64.toUInt64 63)).toInt64) &&& (3689348814741910323 : Int64))) + ((((((y0 - ((((y0 : Int64).toUInt64 >>> ((1 : Int32).toInt64.toUInt64 &&& Int64.toUInt64 63)).toInt64) &&& (6148914691236517205 : Int64))) &&& (3689348814741910323 : Int64)) + (((((y0 - ((((y0 : Int64).toUInt64 >>> ((1 : Int32).toInt64.toUInt64 &&& Int64.toUInt64 63)).toInt64) &&& (6148914691236517205 : Int64))) : Int64).toUInt64 >>> ((2 : Int32).toInt64.toUInt64 &&& Int64.toUInt64 63)).toInt64) &&& (3689348814741910323 : Int64))) : Int64).toUInt64 >>> ((4 : Int32).toInt64.toUInt64 &&& Int64.toUInt64 63)).toInt64)) &&& (1085102592571150095 : Int64)) : Int64).toUInt64 >>> ((8 : Int32).toInt64.toUInt64 &&& Int64.toUInt64 63)).toInt64)) + (((((((((y0 - ((((y0 : Int64).toUInt64 >>> ((1 : Int32).toInt64.toUInt64 &&& Int64.toUInt64 63)).toInt64) &&& (6148914691236517205 : Int64))) &&& (3689348814741910323 : Int64)) + (((((y0 - ((((y0 : Int64).toUInt64 >>> ((1 : Int32).toInt64.toUInt64 &&& Int64.toUInt64 63)).toInt64) &&& (6148914691236517205 : Int64))) : Int64).toUInt64 >>> ((2 : Int32).toInt64.toUInt64 &&& Int64.toUInt64 63)).toInt64) &&& (3689348814741910323 : Int64))) + ((((((y0 - ((((y0 : Int64).toUInt64 >>> ((1 : Int32).toInt64.toUInt64 &&& Int64.toUInt64 63)).toInt64) &&& (6148914691236517205 : Int64))) &&& (3689348814741910323 : Int64)) + (((((y0 - ((((y0 : Int64).toUInt64 >>> ((1 : Int32).toInt64.toUInt64 &&& Int64.toUInt64 63)).toInt64) &&& (6148914691236517205 : Int64))) : Int64).toUInt64 >>> ((2 : Int32).toInt64.toUInt64 &&& Int64.toUInt64 63)).toInt64) &&& (3689348814741910323 : Int64))) : Int64).toUInt64 >>> ((4 : Int32).toInt64.toUInt64 &&& Int64.toUInt64 63)).toInt64)) &&& (1085102592571150095 : Int64)) + ((((((((y0 - ((((y0 : Int64).toUInt64 >>> ((1 : Int32).toInt64.toUInt64 &&& Int64.toUInt64 63)).toInt64) &&& (6148914691236517205 : Int64))) &&& (3689348814741910323 : Int64)) + (((((y0 - ((((y0 : Int64).toUInt64 >>> ((1 : Int32).toInt64.toUInt64 &&& Int64.toUInt64 63)).toInt64) &&& (6148914691236517205 : Int64))) : Int64).toUInt64 >>> ((2 : Int32).toInt64.toUInt64 &&& Int64.toUInt64 63)).toInt64) &&& (3689348814741910323 : Int64))) + ((((((y0 - ((((y0 : Int64).toUInt64 >>> ((1 : Int32).toInt64.toUInt64 &&& Int64.toUInt64 63)).toInt64) &&& (6148914691236517205 : Int64))) &&& (3689348814741910323 : Int64)) + (((((y0 - ((((y0 : Int64).toUInt64 >>> ((1 : Int32).toInt64.toUInt64 &&& Int64.toUInt64 63)).toInt64) &&& (6148914691236517205 : Int64))) : Int64).toUInt64 >>> ((2 : Int32).toInt64.toUInt64 &&& Int64.toUInt64 63)).toInt64) &&& (3689348814741910323 : Int64))) : Int64).toUInt64 >>> ((4 : Int32).toInt64.toUInt64 &&& Int64.toUInt64 63)).toInt64)) &&& (1085102592571150095 : Int64)) : Int64).toUInt64 >>> ((8 : Int32).toInt64.toUInt64 &&& Int64.toUInt64 63)).toInt64)) : Int64).toUInt64 >>> ((16 : Int32).toInt64.toUInt64 &&& Int64.toUInt64 63)).toInt64)) : Int64).toUInt64 >>> ((32 : Int32).toInt64.toUInt64 &&& Int64.toUInt64 63)).toInt64)))]) hx hb dJ13_bitCount_95d88_54 rfl hl (by decide) rfl (fun ls hl => ?_)
  refine lv_lload_n hx hb dJ13_bitCount_95d88_55 rfl (lv_at hl 0 rfl) ?_
  refine lv_l2i (v := (((((((((y0 - ((((y0 : Int64).toUInt64 >>> ((1 : Int32).toInt64.toUInt64 &&& Int64.toUInt64 63)).toInt64) &&& (6148914691236517205 : Int64))) &&& (3689348814741910323 : Int64)) + (((((y0 - ((((y0 : Int64).toUInt64 >>> ((1 : Int32).toInt64.toUInt64 &&& Int64.toUInt64 63)).toInt64) &&& (6148914691236517205 : Int64))) : Int64).toUInt64 >>> ((2 : Int32).toInt64.toUInt64 &&& Int64.toUInt64 63)).toInt64) &&& (3689348814741910323 : Int64))) + ((((((y0 - ((((y0 : Int64).toUInt64 >>> ((1 : Int32).toInt64.toUInt64 &&& Int64.toUInt64 63)).toInt64) &&& (6148914691236517205 : Int64))) &&& (3689348814741910323 : Int64)) + (((((y0 - ((((y0 : Int64).toUInt64 >>> ((1 : Int32).toInt64.toUInt64 &&& Int64.toUInt64 63)).toInt64) &&& (6148914691236517205 : Int64))) : Int64).toUInt64 >>> ((2 : Int32).toInt64.toUInt64 &&& Int64.toUInt64 63)).toInt64) &&& (3689348814741910323 : Int64))) : Int64).toUInt64 >>> ((4 : Int32).toInt64.toUInt64 &&& Int64.toUInt64 63)).toInt64)) &&& (1085102592571150095 : Int64)) + ((((((((y0 - ((((y0 : Int64).toUInt64 >>> ((1 : Int32).toInt64.toUInt64 &&& Int64.toUInt64 63)).toInt64) &&& (6148914691236517205 : Int64))) &&& (3689348814741910323 : Int64)) + (((((y0 - ((((y0 : Int64).toUInt64 >>> ((1 : Int32).toInt64.toUInt64 &&& Int64.toUInt64 63)).toInt64) &&& (6148914691236517205 : Int64))) : Int64).toUInt64 >>> ((2 : Int32).toInt64.toUInt64 &&& Int64.toUInt64 63)).toInt64) &&& (3689348814741910323 : Int64))) + ((((((y0 - ((((y0 : Int64).toUInt64 >>> ((1 : Int32).toInt64.toUInt64 &&& Int64.toUInt64 63)).toInt64) &&& (6148914691236517205 : Int64))) &&& (3689348814741910323 : Int64)) + (((((y0 - ((((y0 : Int64).toUInt64 >>> ((1 : Int32).toInt64.toUInt64 &&& Int64.toUInt64 63)).toInt64) &&& (6148914691236517205 : Int64))) : Int64).toUInt64 >>> ((2 : Int32).toInt64.toUInt64 &&& Int64.toUInt64 63)).toInt64) &&& (3689348814741910323 : Int64))) : Int64).toUInt64 >>> ((4 : Int32).toInt64.toUInt64 &&& Int64.toUInt64 63)).toInt64)) &&& (1085102592571150095 : Int64)) : Int64).toUInt64 >>> ((8 : Int32).toInt64.toUInt64 &&& Int64.toUInt64 63)).toInt64)) + (((((((((y0 - ((((y0 : Int64).toUInt64 >>> ((1 : Int32).toInt64.toUInt64 &&& Int64.toUInt64 63)).toInt64) &&& (6148914691236517205 : Int64))) &&& (3689348814741910323 : Int64)) + (((((y0 - ((((y0 : Int64).toUInt64 >>> ((1 : Int32).toInt64.toUInt64 &&& Int64.toUInt64 63)).toInt64) &&& (6148914691236517205 : Int64))) : Int64).toUInt64 >>> ((2 : Int32).toInt64.toUInt64 &&& Int64.toUInt64 63)).toInt64) &&& (3689348814741910323 : Int64))) + ((((((y0 - ((((y0 : Int64).toUInt64 >>> ((1 : Int32).toInt64.toUInt64 &&& Int64.toUInt64 63)).toInt64) &&& (6148914691236517205 : Int64))) &&& (3689348814741910323 : Int64)) + (((((y0 - ((((y0 : Int64).toUInt64 >>> ((1 : Int32).toInt64.toUInt64 &&& Int64.toUInt64 63)).toInt64) &&& (6148914691236517205 : Int64))) : Int64).toUInt64 >>> ((2 : Int32).toInt64.toUInt64 &&& Int64.toUInt64 63)).toInt64) &&& (3689348814741910323 : Int64))) : Int64).toUInt64 >>> ((4 : Int32).toInt64.toUInt64 &&& Int64.toUInt64 63)).toInt64)) &&& (1085102592571150095 : Int64)) + ((((((((y0 - ((((y0 : Int64).toUInt64 >>> ((1 : Int32).toInt64.toUInt64 &&& Int64.toUInt64 63)).toInt64) &&& (6148914691236517205 : Int64))) &&& (3689348814741910323 : Int64)) + (((((y0 - ((((y0 : Int64).toUInt64 >>> ((1 : Int32).toInt64.toUInt64 &&& Int64.toUInt64 63)).toInt64) &&& (6148914691236517205 : Int64))) : Int64).toUInt64 >>> ((2 : Int32).toInt64.toUInt64 &&& Int64.toUInt64 63)).toInt64) &&& (3689348814741910323 : Int64))) + ((((((y0 - ((((y0 : Int64).toUInt64 >>> ((1 : Int32).toInt64.toUInt64 &&& Int64.toUInt64 63)).toInt64) &&& (6148914691236517205 : Int64))) &&& (3689348814741910323 : Int64)) + (((((y0 - ((((y0 : Int64).toUInt64 >>> ((1 : Int32).toInt64.toUInt64 &&& Int64.toUInt64 63)).toInt64) &&& (6148914691236517205 : Int64))) : Int64).toUInt64 >>> ((2 : Int32).toInt64.toUInt64 &&& Int64.toUInt64 63)).toInt64) &&& (3689348814741910323 : Int64))) : Int64).toUInt64 >>> ((4 : Int32).toInt64.toUInt64 &&& Int64.toUInt64 63)).toInt64)) &&& (1085102592571150095 : Int64)) : Int64).toUInt64 >>> ((8 : Int32).toInt64.toUInt64 &&& Int64.toUInt64 63)).toInt64)) : Int64).toUInt64 >>> ((16 : Int32).toInt64.toUInt64 &&& Int64.toUInt64 63)).toInt64)) + ((((((((((y0 - ((((y0 : Int64).toUInt64 >>> ((1 : Int32).toInt64.toUInt64 &&& Int64.toUInt64 63)).toInt64) &&& (6148914691236517205 : Int64))) &&& (3689348814741910323 : Int64)) + (((((y0 - ((((y0 : Int64).toUInt64 >>> ((1 : Int32).toInt64.toUInt64 &&& Int64.toUInt64 63)).toInt64) &&& (6148914691236517205 : Int64))) : Int64).toUInt64 >>> ((2 : Int32).toInt64.toUInt64 &&& Int64.toUInt64 63)).toInt64) &&& (3689348814741910323 : Int64))) + ((((((y0 - ((((y0 : Int64).toUInt64 >>> ((1 : Int32).toInt64.toUInt64 &&& Int64.toUInt64 63)).toInt64) &&& (6148914691236517205 : Int64))) &&& (3689348814741910323 : Int64)) + (((((y0 - ((((y0 : Int64).toUInt64 >>> ((1 : Int32).toInt64.toUInt64 &&& Int64.toUInt64 63)).toInt64) &&& (6148914691236517205 : Int64))) : Int64).toUInt64 >>> ((2 : Int32).toInt64.toUInt64 &&& Int64.toUInt64 63)).toInt64) &&& (3689348814741910323 : Int64))) : Int64).toUInt64 >>> ((4 : Int32).toInt64.toUInt64 &&& Int64.toUInt64 63)).toInt64)) &&& (1085102592571150095 : Int64)) + ((((((((y0 - ((((y0 : Int64).toUInt64 >>> ((1 : Int32).toInt64.toUInt64 &&& Int64.toUInt64 63)).toInt64) &&& (6148914691236517205 : Int64))) &&& (3689348814741910323 : Int64)) + (((((y0 - ((((y0 : Int64).toUInt64 >>> ((1 : Int32).toInt64.toUInt64 &&& Int64.toUInt64 63)).toInt64) &&& (6148914691236517205 : Int64))) : Int64).toUInt64 >>> ((2 : Int32).toInt64.toUInt64 &&& Int64.toUInt64 63)).toInt64) &&& (3689348814741910323 : Int64))) + ((((((y0 - ((((y0 : Int64).toUInt64 >>> ((1 : Int32).toInt64.toUInt64 &&& Int64.toUInt64 63)).toInt64) &&& (6148914691236517205 : Int64))) &&& (3689348814741910323 : Int64)) + (((((y0 - ((((y0 : Int64).toUInt64 >>> ((1 : Int32).toInt64.toUInt64 &&& Int64.toUInt64 63)).toInt64) &&& (6148914691236517205 : Int64))) : Int64).toUInt64 >>> ((2 : Int32).toInt64.toUInt64 &&& Int64.toUInt64 63)).toInt64) &&& (3689348814741910323 : Int64))) : Int64).toUInt64 >>> ((4 : Int32).toInt64.toUInt64 &&& Int64.toUInt64 63)).toInt64)) &&& (1085102592571150095 : Int64)) : Int64).toUInt64 >>> ((8 : Int32).toInt64.toUInt64 &&& Int64.toUInt64 63)).toInt64)) + (((((((((y0 - ((((y0 : Int64).toUInt64 >>> ((1 : Int32).toInt64.toUInt64 &&& Int64.toUInt64 63)).toInt64) &&& (6148914691236517205 : Int64))) &&& (3689348814741910323 : Int64)) + (((((y0 - ((((y0 : Int64).toUInt64 >>> ((1 : Int32).toInt64.toUInt64 &&& Int64.toUInt64 63)).toInt64) &&& (6148914691236517205 : Int64))) : Int64).toUInt64 >>> ((2 : Int32).toInt64.toUInt64 &&& Int64.toUInt64 63)).toInt64) &&& (3689348814741910323 : Int64))) + ((((((y0 - ((((y0 : Int64).toUInt64 >>> ((1 : Int32).toInt64.toUInt64 &&& Int64.toUInt64 63)).toInt64) &&& (6148914691236517205 : Int64))) &&& (3689348814741910323 : Int64)) + (((((y0 - ((((y0 : Int64).toUInt64 >>> ((1 : Int32).toInt64.toUInt64 &&& Int64.toUInt64 63)).toInt64) &&& (6148914691236517205 : Int64))) : Int64).toUInt64 >>> ((2 : Int32).toInt64.toUInt64 &&& Int64.toUInt64 63)).toInt64) &&& (3689348814741910323 : Int64))) : Int64).toUInt64 >>> ((4 : Int32).toInt64.toUInt64 &&& Int64.toUInt64 63)).toInt64)) &&& (1085102592571150095 : Int64)) + ((((((((y0 - ((((y0 : Int64).toUInt64 >>> ((1 : Int32).toInt64.toUInt64 &&& Int64.toUInt64 63)).toInt64) &&& (6148914691236517205 : Int64))) &&& (3689348814741910323 : Int64)) + (((((y0 - ((((y0 : Int64).toUInt64 >>> ((1 : Int32).toInt64.toUInt64 &&& Int64.toUInt64 63)).toInt64) &&& (6148914691236517205 : Int64))) : Int64).toUInt64 >>> ((2 : Int32).toInt64.toUInt64 &&& Int64.toUInt64 63)).toInt64) &&& (3689348814741910323 : Int64))) + ((((((y0 - ((((y0 : Int64).toUInt64 >>> ((1 : Int32).toInt64.toUInt64 &&& Int64.toUInt64 63)).toInt64) &&& (6148914691236517205 : Int64))) &&& (3689348814741910323 : Int64)) + (((((y0 - ((((y0 : Int64).toUInt64 >>> ((1 : Int32).toInt64.toUInt64 &&& Int64.toUInt64 63)).toInt64) &&& (6148914691236517205 : Int64))) : Int64).toUInt64 >>> ((2 : Int32).toInt64.toUInt64 &&& Int64.toUInt64 63)).toInt64) &&& (3689348814741910323 : Int64))) : Int64).toUInt64 >>> ((4 : Int32).toInt64.toUInt64 &&& Int64.toUInt64 63)).toInt64)) &&& (1085102592571150095 : Int64)) : Int64).toUInt64 >>> ((8 : Int32).toInt64.toUInt64 &&& Int64.toUInt64 63)).toInt64)) : Int64).toUInt64 >>> ((16 : Int32).toInt64.toUInt64 &&& Int64.toUInt64 63)).toInt64)) : Int64).toUInt64 >>> ((32 : Int32).toInt64.toUInt64 &&& Int64.toUInt64 63)).toInt64)) : Int64).toInt32) hx hb dJ13_bitCount_95d88_56 rfl ?_
  refine lv_bipush (v := 127) hx hb dJ13_bitCount_95d88_57 (by decide) ?_
  refine lv_iand hx hb dJ13_bitCount_95d88_59 ?_
  obtain rfl := Option.some.inj h
  exact hQ _ _ dJ13_bitCount_95d88_60
