/-! written by wip/whole/gen.py -/
abbrev rm_X5_in : Room := { frames := 0, cells := 0, slots := 0, locals := 0 }
def f_X5_in (y0 : Int32) (y1 : Int32) (y2 : Int32) : Option (Bool) := if y0 < y1 then (some false) else (if y2 < y0 then (some false) else (some true))
set_option maxHeartbeats 4000000 in
set_option maxRecDepth 100000 in
theorem c_X5_in (l : Launch) (D : va_G) (k : Nat → ClassId) (y0 : Int32) (y1 : Int32) (y2 : Int32) (r : Bool) (h : f_X5_in y0 y1 y2 = some r) : Met l yX5_in wsX5_in rm_X5_in (va_Pc [.int y0, .int y1, .int y2] (RB D k ([]))) (QR (some (.int (b2i r)))) 0 0 (fun _ => False) := by
  refine met_Rz (by decide) rfl (Nat.le_of_ble_eq_true rfl) ?_
  intro p e s m below meth c Q args ls hx hb hml hown hts hP hK hN hl hQ
  have hl : lv_has ls 3 [(0, .int y0), (1, .int y1), (2, .int y2)] := hl
  have hown : s.vm.findClass RX5 = some m.cls := hown
  unfold f_X5_in at h
  refine lv_iload_n hx hb dX5_in_0 rfl (lv_at hl 0 rfl) ?_
  refine lv_iload_n hx hb dX5_in_1 rfl (lv_at hl 1 rfl) ?_
  refine lv_icmp_lt (tgt := 14) hx hb dX5_in_2 (by decide) (fun c1 => ?_) (fun c1 => ?_)
  · have h := if_t h c1
    refine lv_iconst (v := 0) hx hb dX5_in_14 (by decide) ?_
    obtain rfl := Option.some.inj h
    exact hQ _ _ dX5_in_15
  · have h := if_f h c1
    refine lv_iload_n hx hb dX5_in_5 rfl (lv_at hl 0 rfl) ?_
    refine lv_iload_n hx hb dX5_in_6 rfl (lv_at hl 2 rfl) ?_
    refine lv_icmp_gt (tgt := 14) hx hb dX5_in_7 (by decide) (fun c2 => ?_) (fun c2 => ?_)
    · have h := if_t h c2
      refine lv_iconst (v := 0) hx hb dX5_in_14 (by decide) ?_
      obtain rfl := Option.some.inj h
      exact hQ _ _ dX5_in_15
    · have h := if_f h c2
      refine lv_iconst (v := 1) hx hb dX5_in_10 (by decide) ?_
      refine lv_goto (tgt := 15) hx hb dX5_in_11 (by decide) ?_
      obtain rfl := Option.some.inj h
      exact hQ _ _ dX5_in_15

abbrev rm_X5_square : Room := { frames := 0, cells := 0, slots := 0, locals := 0 }
def f_X5_square (y0 : Int32) : Option (Int32) := some (y0 * y0)
set_option maxHeartbeats 4000000 in
set_option maxRecDepth 100000 in
theorem c_X5_square (l : Launch) (D : va_G) (k : Nat → ClassId) (y0 : Int32) (r : Int32) (h : f_X5_square y0 = some r) : Met l yX5_square wsX5_square rm_X5_square (va_Pc [.int y0] (RB D k ([]))) (QR (some (.int r))) 0 0 (fun _ => False) := by
  refine met_Ri (by decide) rfl (Nat.le_of_ble_eq_true rfl) ?_
  intro p e s m below meth c Q args ls hx hb hml hown hts hP hK hN hl hQ
  have hl : lv_has ls 1 [(0, .int y0)] := hl
  have hown : s.vm.findClass RX5 = some m.cls := hown
  unfold f_X5_square at h
  refine lv_iload_n hx hb dX5_square_0 rfl (lv_at hl 0 rfl) ?_
  refine lv_iload_n hx hb dX5_square_1 rfl (lv_at hl 0 rfl) ?_
  refine lv_imul hx hb dX5_square_2 ?_
  obtain rfl := Option.some.inj h
  exact hQ _ _ dX5_square_3

abbrev rm_X5_isDay : Room := { frames := 1, cells := 0, slots := 0, locals := 22 }
def f_X5_isDay (y0 : Int32) : Option (Bool) := (f_X5_in y0 0 63).bind (fun x1 => some x1)
set_option maxHeartbeats 4000000 in
set_option maxRecDepth 100000 in
theorem c_X5_isDay (l : Launch) (D : va_G) (k : Nat → ClassId) (y0 : Int32) (r : Bool) (h : f_X5_isDay y0 = some r) : Met l yX5_isDay wsX5_isDay rm_X5_isDay (va_Pc [.int y0] (RB D k ([]))) (QR (some (.int (b2i r)))) 0 0 (fun _ => False) := by
  refine met_Rz (by decide) rfl (Nat.le_of_ble_eq_true rfl) ?_
  intro p e s m below meth c Q args ls hx hb hml hown hts hP hK hN hl hQ
  have hl : lv_has ls 1 [(0, .int y0)] := hl
  have hown : s.vm.findClass RX5 = some m.cls := hown
  unfold f_X5_isDay at h
  refine lv_iload_n hx hb dX5_isDay_0 rfl (lv_at hl 0 rfl) ?_
  refine lv_iconst (v := 0) hx hb dX5_isDay_1 (by decide) ?_
  refine lv_bipush (v := 63) hx hb dX5_isDay_2 (by decide) ?_
  obtain ⟨x1, h2, h⟩ := bd_s h
  refine cR_S (As := [.int y0, .int 0, .int 63]) (rest := []) (n := 3) (v := .int (b2i x1)) hx hb hml hown hts hK hN hl.1 (c_X5_in l D k y0 0 63 x1 h2) gX5_isDay_X5_in rfl (by decide +kernel) ⟨⟨rfl, rfl⟩, by decide, by decide⟩ va_P_nil rfl rfl (Nat.le_of_ble_eq_true rfl) dX5_isDay_4 ⟨Nat.zero_le _, Nat.zero_le _⟩ ?_
  obtain rfl := Option.some.inj h
  exact hQ _ _ dX5_isDay_7

abbrev rm_X5_has : Room := { frames := 0, cells := 0, slots := 0, locals := 0 }
def f_X5_has (y0 : Int32) (y1 : Int32) : Option (Bool) := if ((y0 >>> (y1 &&& 31)) &&& 1) = 1 then (some true) else (some false)
set_option maxHeartbeats 4000000 in
set_option maxRecDepth 100000 in
theorem c_X5_has (l : Launch) (D : va_G) (k : Nat → ClassId) (y0 : Int32) (y1 : Int32) (r : Bool) (h : f_X5_has y0 y1 = some r) : Met l yX5_has wsX5_has rm_X5_has (va_Pc [.int y0, .int y1] (RB D k ([]))) (QR (some (.int (b2i r)))) 0 0 (fun _ => False) := by
  refine met_Rz (by decide) rfl (Nat.le_of_ble_eq_true rfl) ?_
  intro p e s m below meth c Q args ls hx hb hml hown hts hP hK hN hl hQ
  have hl : lv_has ls 2 [(0, .int y0), (1, .int y1)] := hl
  have hown : s.vm.findClass RX5 = some m.cls := hown
  unfold f_X5_has at h
  refine lv_iload_n hx hb dX5_has_0 rfl (lv_at hl 0 rfl) ?_
  refine lv_iload_n hx hb dX5_has_1 rfl (lv_at hl 1 rfl) ?_
  refine lv_ishr hx hb dX5_has_2 ?_
  refine lv_iconst (v := 1) hx hb dX5_has_3 (by decide) ?_
  refine lv_iand hx hb dX5_has_4 ?_
  refine lv_iconst (v := 1) hx hb dX5_has_5 (by decide) ?_
  refine lv_icmp_ne (tgt := 13) hx hb dX5_has_6 (by decide) (fun c1 => ?_) (fun c1 => ?_)
  · have h := if_f h c1
    refine lv_iconst (v := 0) hx hb dX5_has_13 (by decide) ?_
    obtain rfl := Option.some.inj h
    exact hQ _ _ dX5_has_14
  · have h := if_t h c1
    refine lv_iconst (v := 1) hx hb dX5_has_9 (by decide) ?_
    refine lv_goto (tgt := 14) hx hb dX5_has_10 (by decide) ?_
    obtain rfl := Option.some.inj h
    exact hQ _ _ dX5_has_14

abbrev rm_X5_isPlace : Room := { frames := 1, cells := 0, slots := 0, locals := 22 }
def f_X5_isPlace (y0 : Int32) (y1 : Int32) : Option (Bool) := (f_X5_in y0 (-20) 35).bind (fun x1 => if (b2i x1) = 0 then (some false) else ((f_X5_in y1 (-20) 35).bind (fun x4 => if (b2i x4) = 0 then (some false) else (some true))))
set_option maxHeartbeats 4000000 in
set_option maxRecDepth 100000 in
theorem c_X5_isPlace (l : Launch) (D : va_G) (k : Nat → ClassId) (y0 : Int32) (y1 : Int32) (r : Bool) (h : f_X5_isPlace y0 y1 = some r) : Met l yX5_isPlace wsX5_isPlace rm_X5_isPlace (va_Pc [.int y0, .int y1] (RB D k ([]))) (QR (some (.int (b2i r)))) 0 0 (fun _ => False) := by
  refine met_Rz (by decide) rfl (Nat.le_of_ble_eq_true rfl) ?_
  intro p e s m below meth c Q args ls hx hb hml hown hts hP hK hN hl hQ
  have hl : lv_has ls 2 [(0, .int y0), (1, .int y1)] := hl
  have hown : s.vm.findClass RX5 = some m.cls := hown
  unfold f_X5_isPlace at h
  refine lv_iload_n hx hb dX5_isPlace_0 rfl (lv_at hl 0 rfl) ?_
  refine lv_bipush (v := (-20)) hx hb dX5_isPlace_1 (by decide) ?_
  refine lv_bipush (v := 35) hx hb dX5_isPlace_3 (by decide) ?_
  obtain ⟨x1, h2, h⟩ := bd_s h
  refine cR_S (As := [.int y0, .int (-20), .int 35]) (rest := []) (n := 3) (v := .int (b2i x1)) hx hb hml hown hts hK hN hl.1 (c_X5_in l D k y0 (-20) 35 x1 h2) gX5_isPlace_X5_in rfl (by decide +kernel) ⟨⟨rfl, rfl⟩, by decide, by decide⟩ va_P_nil rfl rfl (Nat.le_of_ble_eq_true rfl) dX5_isPlace_5 ⟨Nat.zero_le _, Nat.zero_le _⟩ ?_
  refine lv_if_eq (tgt := 26) hx hb dX5_isPlace_8 (by decide) (fun c3 => ?_) (fun c3 => ?_)
  · have h := if_t h c3
    refine lv_iconst (v := 0) hx hb dX5_isPlace_26 (by decide) ?_
    obtain rfl := Option.some.inj h
    exact hQ _ _ dX5_isPlace_27
  · have h := if_f h c3
    refine lv_iload_n hx hb dX5_isPlace_11 rfl (lv_at hl 1 rfl) ?_
    refine lv_bipush (v := (-20)) hx hb dX5_isPlace_12 (by decide) ?_
    refine lv_bipush (v := 35) hx hb dX5_isPlace_14 (by decide) ?_
    obtain ⟨x4, h5, h⟩ := bd_s h
    refine cR_S (As := [.int y1, .int (-20), .int 35]) (rest := []) (n := 3) (v := .int (b2i x4)) hx hb hml hown hts hK hN hl.1 (c_X5_in l D k y1 (-20) 35 x4 h5) gX5_isPlace_X5_in rfl (by decide +kernel) ⟨⟨rfl, rfl⟩, by decide, by decide⟩ va_P_nil rfl rfl (Nat.le_of_ble_eq_true rfl) dX5_isPlace_16 ⟨Nat.zero_le _, Nat.zero_le _⟩ ?_
    refine lv_if_eq (tgt := 26) hx hb dX5_isPlace_19 (by decide) (fun c6 => ?_) (fun c6 => ?_)
    · have h := if_t h c6
      refine lv_iconst (v := 0) hx hb dX5_isPlace_26 (by decide) ?_
      obtain rfl := Option.some.inj h
      exact hQ _ _ dX5_isPlace_27
    · have h := if_f h c6
      refine lv_iconst (v := 1) hx hb dX5_isPlace_22 (by decide) ?_
      refine lv_goto (tgt := 27) hx hb dX5_isPlace_23 (by decide) ?_
      obtain rfl := Option.some.inj h
      exact hQ _ _ dX5_isPlace_27

abbrev rm_X5_common : Room := { frames := 0, cells := 0, slots := 0, locals := 0 }
def f_X5_common_L7 (z : Int32 × Int32 × Int32) : Option ((Int32 × Int32 × Int32) ⊕ (Int32)) := if 100 ≤ z.2.2 then (some (.inr z.1)) else (if z.2.1 = 0 then (some (.inr z.1)) else (if z.2.1 = 0 then none else (some (.inl (z.2.1, (z.1 - z.1 / z.2.1 * z.2.1), (z.2.2 + 1))))))
def f_X5_common (y0 : Int32) (y1 : Int32) : Option (Int32) := (lp (f_X5_common_L7) fu (y0, y1, 0)).bind (fun x1 => some x1)
set_option maxHeartbeats 4000000 in
set_option maxRecDepth 100000 in
theorem c_X5_common (l : Launch) (D : va_G) (k : Nat → ClassId) (y0 : Int32) (y1 : Int32) (r : Int32) (h : f_X5_common y0 y1 = some r) : Met l yX5_common wsX5_common rm_X5_common (va_Pc [.int y0, .int y1] (RB D k ([]))) (QR (some (.int r))) 0 0 (fun _ => False) := by
  refine met_Ri (by decide) rfl (Nat.le_of_ble_eq_true rfl) ?_
  intro p e s m below meth c Q args ls hx hb hml hown hts hP hK hN hl hQ
  have hl : lv_has ls 6 [(0, .int y0), (1, .int y1)] := hl
  have hown : s.vm.findClass RX5 = some m.cls := hown
  unfold f_X5_common at h
  refine lv_iload_n hx hb dX5_common_0 rfl (lv_at hl 0 rfl) ?_
  refine lv_istore_n (lv' := [(2, .int y0), (0, .int y0), (1, .int y1)]) hx hb dX5_common_1 rfl hl (by decide) rfl (fun ls hl => ?_)
  refine lv_iload_n hx hb dX5_common_2 rfl (lv_at hl 2 rfl) ?_
  refine lv_istore_n (lv' := [(3, .int y1), (2, .int y0), (0, .int y0), (1, .int y1)]) hx hb dX5_common_3 rfl hl (by decide) rfl (fun ls hl => ?_)
  refine lv_iconst (v := 0) hx hb dX5_common_4 (by decide) ?_
  refine lv_istore (lv' := [(4, .int 0), (3, .int y1), (2, .int y0), (0, .int y0), (1, .int y1)]) hx hb dX5_common_5 hl (by decide) rfl (fun ls hl => ?_)
  obtain ⟨x1, h2, h⟩ := bd_s h
  have K11 : ∀ (ls : Array Slot), lv_has ls 6 [(2, .int x1)] → W p l e rm_X5_common s m args below meth c s.heap [] 0 0 Q (F0 m 34 ls []) := by
    intro ls hl
    refine lv_iload_n hx hb dX5_common_34 rfl (lv_at hl 0 rfl) ?_
    obtain rfl := Option.some.inj h
    exact hQ _ _ dX5_common_35
  refine lp_W (P := fun z3 => ∀ (ls : Array Slot), lv_has ls 6 [(2, .int z3.1), (3, .int z3.2.1), (4, .int z3.2.2)] → W p l e rm_X5_common s m args below meth c s.heap [] 0 0 Q (F0 m 7 ls [])) (E := fun x1 => ∀ (ls : Array Slot), lv_has ls 6 [(2, .int x1)] → W p l e rm_X5_common s m args below meth c s.heap [] 0 0 Q (F0 m 34 ls [])) (fun z3 xx5 hB4 kI6 kE7 => ?_) _ _ _ h2 K11 ls (lv_sub hl [2, 1, 0] rfl)
  intro ls hl
  unfold f_X5_common_L7 at hB4
  refine lv_iload hx hb dX5_common_7 (lv_at hl 2 rfl) ?_
  refine lv_bipush (v := 100) hx hb dX5_common_9 (by decide) ?_
  refine lv_icmp_ge (tgt := 34) hx hb dX5_common_11 (by decide) (fun c8 => ?_) (fun c8 => ?_)
  · have hB4 := if_t hB4 c8
    exact kE7 _ (Option.some.inj hB4).symm ls (lv_sub hl [0] rfl)
  · have hB4 := if_f hB4 c8
    refine lv_iload_n hx hb dX5_common_14 rfl (lv_at hl 1 rfl) ?_
    refine lv_if_eq (tgt := 34) hx hb dX5_common_15 (by decide) (fun c9 => ?_) (fun c9 => ?_)
    · have hB4 := if_t hB4 c9
      exact kE7 _ (Option.some.inj hB4).symm ls (lv_sub hl [0] rfl)
    · have hB4 := if_f hB4 c9
      refine lv_iload_n hx hb dX5_common_18 rfl (lv_at hl 0 rfl) ?_
      refine lv_iload_n hx hb dX5_common_19 rfl (lv_at hl 1 rfl) ?_
      obtain ⟨c10, hB4⟩ := if_n hB4
      refine lv_irem hx hb dX5_common_20 c10 ?_
      refine lv_istore (lv' := [(5, .int (z3.1 - z3.1 / z3.2.1 * z3.2.1)), (2, .int z3.1), (3, .int z3.2.1), (4, .int z3.2.2)]) hx hb dX5_common_21 hl (by decide) rfl (fun ls hl => ?_)
      refine lv_iload_n hx hb dX5_common_23 rfl (lv_at hl 2 rfl) ?_
      refine lv_istore_n (lv' := [(2, .int z3.2.1), (5, .int (z3.1 - z3.1 / z3.2.1 * z3.2.1)), (3, .int z3.2.1), (4, .int z3.2.2)]) hx hb dX5_common_24 rfl hl (by decide) rfl (fun ls hl => ?_)
      refine lv_iload hx hb dX5_common_25 (lv_at hl 1 rfl) ?_
      refine lv_istore_n (lv' := [(3, .int (z3.1 - z3.1 / z3.2.1 * z3.2.1)), (2, .int z3.2.1), (5, .int (z3.1 - z3.1 / z3.2.1 * z3.2.1)), (4, .int z3.2.2)]) hx hb dX5_common_27 rfl hl (by decide) rfl (fun ls hl => ?_)
      refine lv_iinc (v := (z3.2.2 + 1)) (lv' := [(4, .int (z3.2.2 + 1)), (3, .int (z3.1 - z3.1 / z3.2.1 * z3.2.1)), (2, .int z3.2.1), (5, .int (z3.1 - z3.1 / z3.2.1 * z3.2.1))]) hx hb dX5_common_28 hl (k := 3) rfl rfl (by decide) rfl (fun ls hl => ?_)
      refine lv_goto (tgt := 7) hx hb dX5_common_31 (by decide) ?_
      exact kI6 _ (Option.some.inj hB4).symm ls (lv_sub hl [2, 1, 0] rfl)

abbrev rm_X5_part : Room := { frames := 1, cells := 0, slots := 0, locals := 25 }
def f_X5_part (y0 : Int32) (y1 : Int32) (y2 : Int32) : Option (Int32) := (f_X5_common y0 y1).bind (fun x1 => if y2 = 0 then (if x1 = 0 then none else (some (y0 / x1))) else (if x1 = 0 then none else (some (y1 / x1))))
set_option maxHeartbeats 4000000 in
set_option maxRecDepth 100000 in
theorem c_X5_part (l : Launch) (D : va_G) (k : Nat → ClassId) (y0 : Int32) (y1 : Int32) (y2 : Int32) (r : Int32) (h : f_X5_part y0 y1 y2 = some r) : Met l yX5_part wsX5_part rm_X5_part (va_Pc [.int y0, .int y1, .int y2] (RB D k ([]))) (QR (some (.int r))) 0 0 (fun _ => False) := by
  refine met_Ri (by decide) rfl (Nat.le_of_ble_eq_true rfl) ?_
  intro p e s m below meth c Q args ls hx hb hml hown hts hP hK hN hl hQ
  have hl : lv_has ls 4 [(0, .int y0), (1, .int y1), (2, .int y2)] := hl
  have hown : s.vm.findClass RX5 = some m.cls := hown
  unfold f_X5_part at h
  refine lv_iload_n hx hb dX5_part_0 rfl (lv_at hl 0 rfl) ?_
  refine lv_iload_n hx hb dX5_part_1 rfl (lv_at hl 1 rfl) ?_
  obtain ⟨x1, h2, h⟩ := bd_s h
  refine cR_S (As := [.int y0, .int y1]) (rest := []) (n := 2) (v := .int x1) hx hb hml hown hts hK hN hl.1 (c_X5_common l D k y0 y1 x1 h2) gX5_part_X5_common rfl (by decide +kernel) ⟨⟨rfl, rfl⟩, by decide, by decide⟩ va_P_nil rfl rfl (Nat.le_of_ble_eq_true rfl) dX5_part_2 ⟨Nat.zero_le _, Nat.zero_le _⟩ ?_
  refine lv_istore_n (lv' := [(3, .int x1), (0, .int y0), (1, .int y1), (2, .int y2)]) hx hb dX5_part_5 rfl hl (by decide) rfl (fun ls hl => ?_)
  refine lv_iload_n hx hb dX5_part_6 rfl (lv_at hl 3 rfl) ?_
  refine lv_if_ne (tgt := 16) hx hb dX5_part_7 (by decide) (fun c3 => ?_) (fun c3 => ?_)
  · have h := if_f h c3
    refine lv_iload_n hx hb dX5_part_16 rfl (lv_at hl 2 rfl) ?_
    refine lv_iload_n hx hb dX5_part_17 rfl (lv_at hl 0 rfl) ?_
    obtain ⟨c4, h⟩ := if_n h
    refine lv_idiv hx hb dX5_part_18 c4 ?_
    obtain rfl := Option.some.inj h
    exact hQ _ _ dX5_part_19
  · have h := if_t h c3
    refine lv_iload_n hx hb dX5_part_10 rfl (lv_at hl 1 rfl) ?_
    refine lv_iload_n hx hb dX5_part_11 rfl (lv_at hl 0 rfl) ?_
    obtain ⟨c5, h⟩ := if_n h
    refine lv_idiv hx hb dX5_part_12 c5 ?_
    refine lv_goto (tgt := 19) hx hb dX5_part_13 (by decide) ?_
    obtain rfl := Option.some.inj h
    exact hQ _ _ dX5_part_19

abbrev rm_X5_without : Room := { frames := 0, cells := 0, slots := 0, locals := 0 }
def f_X5_without (y0 : Int32) (y1 : Int32) : Option (Int32) := some (y0 &&& (((1 : Int32) <<< (y1 &&& 31)) ^^^ (-1)))
set_option maxHeartbeats 4000000 in
set_option maxRecDepth 100000 in
theorem c_X5_without (l : Launch) (D : va_G) (k : Nat → ClassId) (y0 : Int32) (y1 : Int32) (r : Int32) (h : f_X5_without y0 y1 = some r) : Met l yX5_without wsX5_without rm_X5_without (va_Pc [.int y0, .int y1] (RB D k ([]))) (QR (some (.int r))) 0 0 (fun _ => False) := by
  refine met_Ri (by decide) rfl (Nat.le_of_ble_eq_true rfl) ?_
  intro p e s m below meth c Q args ls hx hb hml hown hts hP hK hN hl hQ
  have hl : lv_has ls 2 [(0, .int y0), (1, .int y1)] := hl
  have hown : s.vm.findClass RX5 = some m.cls := hown
  unfold f_X5_without at h
  refine lv_iload_n hx hb dX5_without_0 rfl (lv_at hl 0 rfl) ?_
  refine lv_iconst (v := 1) hx hb dX5_without_1 (by decide) ?_
  refine lv_iload_n hx hb dX5_without_2 rfl (lv_at hl 1 rfl) ?_
  refine lv_ishl hx hb dX5_without_3 ?_
  refine lv_iconst (v := (-1)) hx hb dX5_without_4 (by decide) ?_
  refine lv_ixor hx hb dX5_without_5 ?_
  refine lv_iand hx hb dX5_without_6 ?_
  obtain rfl := Option.some.inj h
  exact hQ _ _ dX5_without_7

abbrev rm_X5_isGauge : Room := { frames := 1, cells := 0, slots := 0, locals := 22 }
def f_X5_isGauge (M : ModelV) (y1 : Int32) : Option (Bool) := (f_X5_in y1 0 (M.2.2.1 - 1)).bind (fun x1 => some x1)
set_option maxHeartbeats 4000000 in
set_option maxRecDepth 100000 in
theorem c_X5_isGauge (l : Launch) (D : va_G) (k : Nat → ClassId) (a : Nat → Nat) (M : ModelV) (y1 : Int32) (r : Bool) (h : f_X5_isGauge M y1 = some r) : Met l yX5_isGauge wsX5_isGauge rm_X5_isGauge (va_Pc [.ref (a 0), .int y1] (RB D k (modelW k a M))) (QR (some (.int (b2i r)))) 0 0 (fun _ => False) := by
  refine met_Rz (by decide) rfl (Nat.le_of_ble_eq_true rfl) ?_
  intro p e s m below meth c Q args ls hx hb hml hown hts hP hK hN hl hQ
  have hl : lv_has ls 2 [(0, .ref (a 0)), (1, .int y1)] := hl
  have hown : s.vm.findClass RX5 = some m.cls := hown
  unfold f_X5_isGauge at h
  have hiRX5 : ∀ w ∈ u_ws RX5 TX5 19, w ∈ wsX5_isGauge := by decide +kernel
  have hf53 := hts (.fieldLink RX5 53 "RainCellsModel" "many" "I") (by decide +kernel)
  refine lv_iload_n hx hb dX5_isGauge_0 rfl (lv_at hl 1 rfl) ?_
  refine lv_iconst (v := 0) hx hb dX5_isGauge_1 (by decide) ?_
  refine lv_aload_n hx hb dX5_isGauge_2 rfl (lv_at hl 0 rfl) ?_
  refine va_get (D := D) (ci := 5) (v := .int M.2.2.1) (C := RX5) (T := TX5) (N := 19) hx hb hts hiRX5 hown hK hP 0 rfl rfl 2 (by decide) hf53 (fun _ h9 => h9) rfl dX5_isGauge_3 ?_
  refine lv_iconst (v := 1) hx hb dX5_isGauge_6 (by decide) ?_
  refine lv_isub hx hb dX5_isGauge_7 ?_
  obtain ⟨x1, h2, h⟩ := bd_s h
  refine cR_S (As := [.int y1, .int 0, .int (M.2.2.1 - 1)]) (rest := []) (n := 3) (v := .int (b2i x1)) hx hb hml hown hts hK hN hl.1 (c_X5_in l D k y1 0 (M.2.2.1 - 1) x1 h2) gX5_isGauge_X5_in rfl (by decide +kernel) ⟨⟨rfl, rfl⟩, by decide, by decide⟩ va_P_nil rfl rfl (Nat.le_of_ble_eq_true rfl) dX5_isGauge_8 ⟨Nat.zero_le _, Nat.zero_le _⟩ ?_
  obtain rfl := Option.some.inj h
  exact hQ _ _ dX5_isGauge_11

abbrev rm_X5_isPlot : Room := { frames := 1, cells := 0, slots := 0, locals := 22 }
def f_X5_isPlot (M : ModelV) (y1 : Int32) (y2 : Int32) : Option (Bool) := (f_X5_in y2 0 15).bind (fun x1 => if (b2i x1) = 0 then (some false) else (gd (ix y2 16) (gd (ix y2 16) ((f_X5_in y1 (M.1 (y2 : Int32).toNatClampNeg) (M.2.1 (y2 : Int32).toNatClampNeg)).bind (fun x6 => if (b2i x6) = 0 then (some false) else (some true))))))
set_option maxHeartbeats 4000000 in
set_option maxRecDepth 100000 in
theorem c_X5_isPlot (l : Launch) (D : va_G) (k : Nat → ClassId) (a : Nat → Nat) (M : ModelV) (y1 : Int32) (y2 : Int32) (r : Bool) (h : f_X5_isPlot M y1 y2 = some r) : Met l yX5_isPlot wsX5_isPlot rm_X5_isPlot (va_Pc [.ref (a 0), .int y1, .int y2] (RB D k (modelW k a M))) (QR (some (.int (b2i r)))) 0 0 (fun _ => False) := by
  refine met_Rz (by decide) rfl (Nat.le_of_ble_eq_true rfl) ?_
  intro p e s m below meth c Q args ls hx hb hml hown hts hP hK hN hl hQ
  have hl : lv_has ls 3 [(0, .ref (a 0)), (1, .int y1), (2, .int y2)] := hl
  have hown : s.vm.findClass RX5 = some m.cls := hown
  unfold f_X5_isPlot at h
  have hiRX5 : ∀ w ∈ u_ws RX5 TX5 19, w ∈ wsX5_isPlot := by decide +kernel
  have hf7 := hts (.fieldLink RX5 7 "RainCellsModel" "from" "[I") (by decide +kernel)
  have hf13 := hts (.fieldLink RX5 13 "RainCellsModel" "to" "[I") (by decide +kernel)
  refine lv_iload_n hx hb dX5_isPlot_0 rfl (lv_at hl 2 rfl) ?_
  refine lv_iconst (v := 0) hx hb dX5_isPlot_1 (by decide) ?_
  refine lv_bipush (v := 15) hx hb dX5_isPlot_2 (by decide) ?_
  obtain ⟨x1, h2, h⟩ := bd_s h
  refine cR_S (As := [.int y2, .int 0, .int 15]) (rest := []) (n := 3) (v := .int (b2i x1)) hx hb hml hown hts hK hN hl.1 (c_X5_in l D k y2 0 15 x1 h2) gX5_isPlot_X5_in rfl (by decide +kernel) ⟨⟨rfl, rfl⟩, by decide, by decide⟩ va_P_nil rfl rfl (Nat.le_of_ble_eq_true rfl) dX5_isPlot_4 ⟨Nat.zero_le _, Nat.zero_le _⟩ ?_
  refine lv_if_eq (tgt := 33) hx hb dX5_isPlot_7 (by decide) (fun c3 => ?_) (fun c3 => ?_)
  · have h := if_t h c3
    refine lv_iconst (v := 0) hx hb dX5_isPlot_33 (by decide) ?_
    obtain rfl := Option.some.inj h
    exact hQ _ _ dX5_isPlot_34
  · have h := if_f h c3
    refine lv_iload_n hx hb dX5_isPlot_10 rfl (lv_at hl 1 rfl) ?_
    refine lv_aload_n hx hb dX5_isPlot_11 rfl (lv_at hl 0 rfl) ?_
    refine va_get (D := D) (ci := 5) (v := .ref (a 1)) (C := RX5) (T := TX5) (N := 19) hx hb hts hiRX5 hown hK hP 0 rfl rfl 0 (by decide) hf7 (fun _ h9 => h9) rfl dX5_isPlot_12 ?_
    refine lv_iload_n hx hb dX5_isPlot_15 rfl (lv_at hl 2 rfl) ?_
    obtain ⟨c4, h⟩ := gd_s h
    refine va_iald (D := D) hx hb hK hP 1 0 rfl rfl (ix_in c4) dX5_isPlot_16 ?_
    refine lv_aload_n hx hb dX5_isPlot_17 rfl (lv_at hl 0 rfl) ?_
    refine va_get (D := D) (ci := 5) (v := .ref (a 2)) (C := RX5) (T := TX5) (N := 19) hx hb hts hiRX5 hown hK hP 0 rfl rfl 1 (by decide) hf13 (fun _ h9 => h9) rfl dX5_isPlot_18 ?_
    refine lv_iload_n hx hb dX5_isPlot_21 rfl (lv_at hl 2 rfl) ?_
    obtain ⟨c5, h⟩ := gd_s h
    refine va_iald (D := D) hx hb hK hP 2 0 rfl rfl (ix_in c5) dX5_isPlot_22 ?_
    obtain ⟨x6, h7, h⟩ := bd_s h
    refine cR_S (As := [.int y1, .int (M.1 (y2 : Int32).toNatClampNeg), .int (M.2.1 (y2 : Int32).toNatClampNeg)]) (rest := []) (n := 3) (v := .int (b2i x6)) hx hb hml hown hts hK hN hl.1 (c_X5_in l D k y1 (M.1 (y2 : Int32).toNatClampNeg) (M.2.1 (y2 : Int32).toNatClampNeg) x6 h7) gX5_isPlot_X5_in rfl (by decide +kernel) ⟨⟨rfl, rfl⟩, by decide, by decide⟩ va_P_nil rfl rfl (Nat.le_of_ble_eq_true rfl) dX5_isPlot_23 ⟨Nat.zero_le _, Nat.zero_le _⟩ ?_
    refine lv_if_eq (tgt := 33) hx hb dX5_isPlot_26 (by decide) (fun c8 => ?_) (fun c8 => ?_)
    · have h := if_t h c8
      refine lv_iconst (v := 0) hx hb dX5_isPlot_33 (by decide) ?_
      obtain rfl := Option.some.inj h
      exact hQ _ _ dX5_isPlot_34
    · have h := if_f h c8
      refine lv_iconst (v := 1) hx hb dX5_isPlot_29 (by decide) ?_
      refine lv_goto (tgt := 34) hx hb dX5_isPlot_30 (by decide) ?_
      obtain rfl := Option.some.inj h
      exact hQ _ _ dX5_isPlot_34

abbrev rm_X5_plots : Room := { frames := 0, cells := 0, slots := 0, locals := 0 }
def f_X5_plots_L4 (M : ModelV) (z : Int32 × Int32) : Option ((Int32 × Int32) ⊕ (Int32)) := if 16 ≤ z.2 then (some (.inr z.1)) else (gd (ix z.2 16) (gd (ix z.2 16) ((if (M.2.1 (z.2 : Int32).toNatClampNeg) < (M.1 (z.2 : Int32).toNatClampNeg) then (some 0) else (gd (ix z.2 16) (gd (ix z.2 16) (some (((M.2.1 (z.2 : Int32).toNatClampNeg) - (M.1 (z.2 : Int32).toNatClampNeg)) + 1)))) : Option (Int32)).bind (fun x4 => some (.inl ((z.1 + x4), (z.2 + 1)))))))
def f_X5_plots (M : ModelV) : Option (Int32) := (lp (f_X5_plots_L4 M) fu (0, 0)).bind (fun x1 => some x1)
set_option maxHeartbeats 4000000 in
set_option maxRecDepth 100000 in
theorem c_X5_plots (l : Launch) (D : va_G) (k : Nat → ClassId) (a : Nat → Nat) (M : ModelV) (r : Int32) (h : f_X5_plots M = some r) : Met l yX5_plots wsX5_plots rm_X5_plots (va_Pc [.ref (a 0)] (RB D k (modelW k a M))) (QR (some (.int r))) 0 0 (fun _ => False) := by
  refine met_Ri (by decide) rfl (Nat.le_of_ble_eq_true rfl) ?_
  intro p e s m below meth c Q args ls hx hb hml hown hts hP hK hN hl hQ
  have hl : lv_has ls 3 [(0, .ref (a 0))] := hl
  have hown : s.vm.findClass RX5 = some m.cls := hown
  unfold f_X5_plots at h
  have hiRX5 : ∀ w ∈ u_ws RX5 TX5 19, w ∈ wsX5_plots := by decide +kernel
  have hf7 := hts (.fieldLink RX5 7 "RainCellsModel" "from" "[I") (by decide +kernel)
  have hf13 := hts (.fieldLink RX5 13 "RainCellsModel" "to" "[I") (by decide +kernel)
  refine lv_iconst (v := 0) hx hb dX5_plots_0 (by decide) ?_
  refine lv_istore_n (lv' := [(1, .int 0), (0, .ref (a 0))]) hx hb dX5_plots_1 rfl hl (by decide) rfl (fun ls hl => ?_)
  refine lv_iconst (v := 0) hx hb dX5_plots_2 (by decide) ?_
  refine lv_istore_n (lv' := [(2, .int 0), (1, .int 0), (0, .ref (a 0))]) hx hb dX5_plots_3 rfl hl (by decide) rfl (fun ls hl => ?_)
  obtain ⟨x1, h2, h⟩ := bd_s h
  have K17 : ∀ (ls : Array Slot), lv_has ls 3 [(1, .int x1)] → W p l e rm_X5_plots s m args below meth c s.heap [] 0 0 Q (F0 m 53 ls []) := by
    intro ls hl
    refine lv_iload_n hx hb dX5_plots_53 rfl (lv_at hl 0 rfl) ?_
    obtain rfl := Option.some.inj h
    exact hQ _ _ dX5_plots_54
  refine lp_W (P := fun z3 => ∀ (ls : Array Slot), lv_has ls 3 [(0, .ref (a 0)), (1, .int z3.1), (2, .int z3.2)] → W p l e rm_X5_plots s m args below meth c s.heap [] 0 0 Q (F0 m 4 ls [])) (E := fun x1 => ∀ (ls : Array Slot), lv_has ls 3 [(1, .int x1)] → W p l e rm_X5_plots s m args below meth c s.heap [] 0 0 Q (F0 m 53 ls [])) (fun z3 xx5 hB4 kI6 kE7 => ?_) _ _ _ h2 K17 ls (lv_sub hl [2, 1, 0] rfl)
  intro ls hl
  unfold f_X5_plots_L4 at hB4
  refine lv_iload_n hx hb dX5_plots_4 rfl (lv_at hl 2 rfl) ?_
  refine lv_bipush (v := 16) hx hb dX5_plots_5 (by decide) ?_
  refine lv_icmp_ge (tgt := 53) hx hb dX5_plots_7 (by decide) (fun c8 => ?_) (fun c8 => ?_)
  · have hB4 := if_t hB4 c8
    exact kE7 _ (Option.some.inj hB4).symm ls (lv_sub hl [1] rfl)
  · have hB4 := if_f hB4 c8
    refine lv_iload_n hx hb dX5_plots_10 rfl (lv_at hl 1 rfl) ?_
    refine lv_aload_n hx hb dX5_plots_11 rfl (lv_at hl 0 rfl) ?_
    refine va_get (D := D) (ci := 5) (v := .ref (a 1)) (C := RX5) (T := TX5) (N := 19) hx hb hts hiRX5 hown hK hP 0 rfl rfl 0 (by decide) hf7 (fun _ h9 => h9) rfl dX5_plots_12 ?_
    refine lv_iload_n hx hb dX5_plots_15 rfl (lv_at hl 2 rfl) ?_
    obtain ⟨c9, hB4⟩ := gd_s hB4
    refine va_iald (D := D) hx hb hK hP 1 0 rfl rfl (ix_in c9) dX5_plots_16 ?_
    refine lv_aload_n hx hb dX5_plots_17 rfl (lv_at hl 0 rfl) ?_
    refine va_get (D := D) (ci := 5) (v := .ref (a 2)) (C := RX5) (T := TX5) (N := 19) hx hb hts hiRX5 hown hK hP 0 rfl rfl 1 (by decide) hf13 (fun _ h9 => h9) rfl dX5_plots_18 ?_
    refine lv_iload_n hx hb dX5_plots_21 rfl (lv_at hl 2 rfl) ?_
    obtain ⟨c10, hB4⟩ := gd_s hB4
    refine va_iald (D := D) hx hb hK hP 2 0 rfl rfl (ix_in c10) dX5_plots_22 ?_
    obtain ⟨x11, h12, hB4⟩ := bd_s hB4
    have K13 : W p l e rm_X5_plots s m args below meth c s.heap [] 0 0 Q (F0 m 45 ls [.int x11, .int z3.1]) := by
      refine lv_iadd hx hb dX5_plots_45 ?_
      refine lv_istore_n (lv' := [(1, .int (z3.1 + x11)), (0, .ref (a 0)), (2, .int z3.2)]) hx hb dX5_plots_46 rfl hl (by decide) rfl (fun ls hl => ?_)
      refine lv_iinc (v := (z3.2 + 1)) (lv' := [(2, .int (z3.2 + 1)), (1, .int (z3.1 + x11)), (0, .ref (a 0))]) hx hb dX5_plots_47 hl (k := 2) rfl rfl (by decide) rfl (fun ls hl => ?_)
      refine lv_goto (tgt := 4) hx hb dX5_plots_50 (by decide) ?_
      exact kI6 _ (Option.some.inj hB4).symm ls (lv_sub hl [2, 1, 0] rfl)
    refine lv_icmp_gt (tgt := 44) hx hb dX5_plots_23 (by decide) (fun c14 => ?_) (fun c14 => ?_)
    · have h12 := if_t h12 c14
      refine lv_iconst (v := 0) hx hb dX5_plots_44 (by decide) ?_
      obtain rfl := Option.some.inj h12
      exact K13
    · have h12 := if_f h12 c14
      refine lv_aload_n hx hb dX5_plots_26 rfl (lv_at hl 0 rfl) ?_
      refine va_get (D := D) (ci := 5) (v := .ref (a 2)) (C := RX5) (T := TX5) (N := 19) hx hb hts hiRX5 hown hK hP 0 rfl rfl 1 (by decide) hf13 (fun _ h9 => h9) rfl dX5_plots_27 ?_
      refine lv_iload_n hx hb dX5_plots_30 rfl (lv_at hl 2 rfl) ?_
      obtain ⟨c15, h12⟩ := gd_s h12
      refine va_iald (D := D) hx hb hK hP 2 0 rfl rfl (ix_in c15) dX5_plots_31 ?_
      refine lv_aload_n hx hb dX5_plots_32 rfl (lv_at hl 0 rfl) ?_
      refine va_get (D := D) (ci := 5) (v := .ref (a 1)) (C := RX5) (T := TX5) (N := 19) hx hb hts hiRX5 hown hK hP 0 rfl rfl 0 (by decide) hf7 (fun _ h9 => h9) rfl dX5_plots_33 ?_
      refine lv_iload_n hx hb dX5_plots_36 rfl (lv_at hl 2 rfl) ?_
      obtain ⟨c16, h12⟩ := gd_s h12
      refine va_iald (D := D) hx hb hK hP 1 0 rfl rfl (ix_in c16) dX5_plots_37 ?_
      refine lv_isub hx hb dX5_plots_38 ?_
      refine lv_iconst (v := 1) hx hb dX5_plots_39 (by decide) ?_
      refine lv_iadd hx hb dX5_plots_40 ?_
      refine lv_goto (tgt := 45) hx hb dX5_plots_41 (by decide) ?_
      obtain rfl := Option.some.inj h12
      exact K13

abbrev rm_X5_gaugeAt : Room := { frames := 0, cells := 0, slots := 0, locals := 0 }
def f_X5_gaugeAt_L6 (M : ModelV) (y1 : Int32) (y2 : Int32) (z : Int32 × Int32) : Option ((Int32 × Int32) ⊕ (Int32)) := if M.2.2.1 ≤ z.2 then (some (.inr z.1)) else (gd (ix z.2 8) ((if (M.2.2.2.1 (z.2 : Int32).toNatClampNeg) = y1 then (gd (ix z.2 8) (if (M.2.2.2.2.1 (z.2 : Int32).toNatClampNeg) = y2 then (some z.2) else (some z.1))) else (some z.1) : Option (Int32)).bind (fun x3 => some (.inl (x3, (z.2 + 1))))))
def f_X5_gaugeAt (M : ModelV) (y1 : Int32) (y2 : Int32) : Option (Int32) := (lp (f_X5_gaugeAt_L6 M y1 y2) fu ((-6), 0)).bind (fun x1 => some x1)
set_option maxHeartbeats 4000000 in
set_option maxRecDepth 100000 in
theorem c_X5_gaugeAt (l : Launch) (D : va_G) (k : Nat → ClassId) (a : Nat → Nat) (M : ModelV) (y1 : Int32) (y2 : Int32) (r : Int32) (h : f_X5_gaugeAt M y1 y2 = some r) : Met l yX5_gaugeAt wsX5_gaugeAt rm_X5_gaugeAt (va_Pc [.ref (a 0), .int y1, .int y2] (RB D k (modelW k a M))) (QR (some (.int r))) 0 0 (fun _ => False) := by
  refine met_Ri (by decide) rfl (Nat.le_of_ble_eq_true rfl) ?_
  intro p e s m below meth c Q args ls hx hb hml hown hts hP hK hN hl hQ
  have hl : lv_has ls 5 [(0, .ref (a 0)), (1, .int y1), (2, .int y2)] := hl
  have hown : s.vm.findClass RX5 = some m.cls := hown
  unfold f_X5_gaugeAt at h
  have hiRX5 : ∀ w ∈ u_ws RX5 TX5 19, w ∈ wsX5_gaugeAt := by decide +kernel
  have hf53 := hts (.fieldLink RX5 53 "RainCellsModel" "many" "I") (by decide +kernel)
  have hf16 := hts (.fieldLink RX5 16 "RainCellsModel" "px" "[I") (by decide +kernel)
  have hf19 := hts (.fieldLink RX5 19 "RainCellsModel" "py" "[I") (by decide +kernel)
  refine lv_bipush (v := (-6)) hx hb dX5_gaugeAt_0 (by decide) ?_
  refine lv_istore_n (lv' := [(3, .int (-6)), (0, .ref (a 0)), (1, .int y1), (2, .int y2)]) hx hb dX5_gaugeAt_2 rfl hl (by decide) rfl (fun ls hl => ?_)
  refine lv_iconst (v := 0) hx hb dX5_gaugeAt_3 (by decide) ?_
  refine lv_istore (lv' := [(4, .int 0), (3, .int (-6)), (0, .ref (a 0)), (1, .int y1), (2, .int y2)]) hx hb dX5_gaugeAt_4 hl (by decide) rfl (fun ls hl => ?_)
  obtain ⟨x1, h2, h⟩ := bd_s h
  have K16 : ∀ (ls : Array Slot), lv_has ls 5 [(3, .int x1)] → W p l e rm_X5_gaugeAt s m args below meth c s.heap [] 0 0 Q (F0 m 50 ls []) := by
    intro ls hl
    refine lv_iload_n hx hb dX5_gaugeAt_50 rfl (lv_at hl 0 rfl) ?_
    obtain rfl := Option.some.inj h
    exact hQ _ _ dX5_gaugeAt_51
  refine lp_W (P := fun z3 => ∀ (ls : Array Slot), lv_has ls 5 [(0, .ref (a 0)), (1, .int y1), (2, .int y2), (3, .int z3.1), (4, .int z3.2)] → W p l e rm_X5_gaugeAt s m args below meth c s.heap [] 0 0 Q (F0 m 6 ls [])) (E := fun x1 => ∀ (ls : Array Slot), lv_has ls 5 [(3, .int x1)] → W p l e rm_X5_gaugeAt s m args below meth c s.heap [] 0 0 Q (F0 m 50 ls [])) (fun z3 xx5 hB4 kI6 kE7 => ?_) _ _ _ h2 K16 ls (lv_sub hl [2, 3, 4, 1, 0] rfl)
  intro ls hl
  unfold f_X5_gaugeAt_L6 at hB4
  refine lv_iload hx hb dX5_gaugeAt_6 (lv_at hl 4 rfl) ?_
  refine lv_aload_n hx hb dX5_gaugeAt_8 rfl (lv_at hl 0 rfl) ?_
  refine va_get (D := D) (ci := 5) (v := .int M.2.2.1) (C := RX5) (T := TX5) (N := 19) hx hb hts hiRX5 hown hK hP 0 rfl rfl 2 (by decide) hf53 (fun _ h9 => h9) rfl dX5_gaugeAt_9 ?_
  refine lv_icmp_ge (tgt := 50) hx hb dX5_gaugeAt_12 (by decide) (fun c8 => ?_) (fun c8 => ?_)
  · have hB4 := if_t hB4 c8
    exact kE7 _ (Option.some.inj hB4).symm ls (lv_sub hl [3] rfl)
  · have hB4 := if_f hB4 c8
    refine lv_aload_n hx hb dX5_gaugeAt_15 rfl (lv_at hl 0 rfl) ?_
    refine va_get (D := D) (ci := 5) (v := .ref (a 3)) (C := RX5) (T := TX5) (N := 19) hx hb hts hiRX5 hown hK hP 0 rfl rfl 3 (by decide) hf16 (fun _ h9 => h9) rfl dX5_gaugeAt_16 ?_
    refine lv_iload hx hb dX5_gaugeAt_19 (lv_at hl 4 rfl) ?_
    obtain ⟨c9, hB4⟩ := gd_s hB4
    refine va_iald (D := D) hx hb hK hP 3 0 rfl rfl (ix_in c9) dX5_gaugeAt_21 ?_
    refine lv_iload_n hx hb dX5_gaugeAt_22 rfl (lv_at hl 1 rfl) ?_
    obtain ⟨x10, h11, hB4⟩ := bd_s hB4
    have K12 : W p l e rm_X5_gaugeAt s m args below meth c s.heap [] 0 0 Q (F0 m 43 ls [.int x10]) := by
      refine lv_istore_n (lv' := [(3, .int x10), (0, .ref (a 0)), (1, .int y1), (2, .int y2), (4, .int z3.2)]) hx hb dX5_gaugeAt_43 rfl hl (by decide) rfl (fun ls hl => ?_)
      refine lv_iinc (v := (z3.2 + 1)) (lv' := [(4, .int (z3.2 + 1)), (3, .int x10), (0, .ref (a 0)), (1, .int y1), (2, .int y2)]) hx hb dX5_gaugeAt_44 hl (k := 4) rfl rfl (by decide) rfl (fun ls hl => ?_)
      refine lv_goto (tgt := 6) hx hb dX5_gaugeAt_47 (by decide) ?_
      exact kI6 _ (Option.some.inj hB4).symm ls (lv_sub hl [2, 3, 4, 1, 0] rfl)
    refine lv_icmp_ne (tgt := 42) hx hb dX5_gaugeAt_23 (by decide) (fun c13 => ?_) (fun c13 => ?_)
    · have h11 := if_f h11 c13
      refine lv_iload_n hx hb dX5_gaugeAt_42 rfl (lv_at hl 3 rfl) ?_
      obtain rfl := Option.some.inj h11
      exact K12
    · have h11 := if_t h11 c13
      refine lv_aload_n hx hb dX5_gaugeAt_26 rfl (lv_at hl 0 rfl) ?_
      refine va_get (D := D) (ci := 5) (v := .ref (a 4)) (C := RX5) (T := TX5) (N := 19) hx hb hts hiRX5 hown hK hP 0 rfl rfl 4 (by decide) hf19 (fun _ h9 => h9) rfl dX5_gaugeAt_27 ?_
      refine lv_iload hx hb dX5_gaugeAt_30 (lv_at hl 4 rfl) ?_
      obtain ⟨c14, h11⟩ := gd_s h11
      refine va_iald (D := D) hx hb hK hP 4 0 rfl rfl (ix_in c14) dX5_gaugeAt_32 ?_
      refine lv_iload_n hx hb dX5_gaugeAt_33 rfl (lv_at hl 2 rfl) ?_
      refine lv_icmp_ne (tgt := 42) hx hb dX5_gaugeAt_34 (by decide) (fun c15 => ?_) (fun c15 => ?_)
      · have h11 := if_f h11 c15
        refine lv_iload_n hx hb dX5_gaugeAt_42 rfl (lv_at hl 3 rfl) ?_
        obtain rfl := Option.some.inj h11
        exact K12
      · have h11 := if_t h11 c15
        refine lv_iload hx hb dX5_gaugeAt_37 (lv_at hl 4 rfl) ?_
        refine lv_goto (tgt := 43) hx hb dX5_gaugeAt_39 (by decide) ?_
        obtain rfl := Option.some.inj h11
        exact K12

abbrev rm_X5_daysOut : Room := { frames := 0, cells := 0, slots := 0, locals := 0 }
def f_X5_daysOut_L4 (M : ModelV) (y1 : Int32) (z : Int32 × Int32) : Option ((Int32 × Int32) ⊕ (Int32)) := if 64 ≤ z.2 then (some (.inr z.1)) else (gd (ix ((64 * y1) + z.2) 512) ((if (M.2.2.2.2.2.2.1 (((64 * y1) + z.2) : Int32).toNatClampNeg) = 0 then (some 0) else (some 1) : Option (Int32)).bind (fun x3 => some (.inl ((z.1 + x3), (z.2 + 1))))))
def f_X5_daysOut (M : ModelV) (y1 : Int32) : Option (Int32) := (lp (f_X5_daysOut_L4 M y1) fu (0, 0)).bind (fun x1 => some x1)
set_option maxHeartbeats 4000000 in
set_option maxRecDepth 100000 in
theorem c_X5_daysOut (l : Launch) (D : va_G) (k : Nat → ClassId) (a : Nat → Nat) (M : ModelV) (y1 : Int32) (r : Int32) (h : f_X5_daysOut M y1 = some r) : Met l yX5_daysOut wsX5_daysOut rm_X5_daysOut (va_Pc [.ref (a 0), .int y1] (RB D k (modelW k a M))) (QR (some (.int r))) 0 0 (fun _ => False) := by
  refine met_Ri (by decide) rfl (Nat.le_of_ble_eq_true rfl) ?_
  intro p e s m below meth c Q args ls hx hb hml hown hts hP hK hN hl hQ
  have hl : lv_has ls 4 [(0, .ref (a 0)), (1, .int y1)] := hl
  have hown : s.vm.findClass RX5 = some m.cls := hown
  unfold f_X5_daysOut at h
  have hiRX5 : ∀ w ∈ u_ws RX5 TX5 19, w ∈ wsX5_daysOut := by decide +kernel
  have hf25 := hts (.fieldLink RX5 25 "RainCellsModel" "isOut" "[Z") (by decide +kernel)
  refine lv_iconst (v := 0) hx hb dX5_daysOut_0 (by decide) ?_
  refine lv_istore_n (lv' := [(2, .int 0), (0, .ref (a 0)), (1, .int y1)]) hx hb dX5_daysOut_1 rfl hl (by decide) rfl (fun ls hl => ?_)
  refine lv_iconst (v := 0) hx hb dX5_daysOut_2 (by decide) ?_
  refine lv_istore_n (lv' := [(3, .int 0), (2, .int 0), (0, .ref (a 0)), (1, .int y1)]) hx hb dX5_daysOut_3 rfl hl (by decide) rfl (fun ls hl => ?_)
  obtain ⟨x1, h2, h⟩ := bd_s h
  have K14 : ∀ (ls : Array Slot), lv_has ls 4 [(2, .int x1)] → W p l e rm_X5_daysOut s m args below meth c s.heap [] 0 0 Q (F0 m 38 ls []) := by
    intro ls hl
    refine lv_iload_n hx hb dX5_daysOut_38 rfl (lv_at hl 0 rfl) ?_
    obtain rfl := Option.some.inj h
    exact hQ _ _ dX5_daysOut_39
  refine lp_W (P := fun z3 => ∀ (ls : Array Slot), lv_has ls 4 [(0, .ref (a 0)), (1, .int y1), (2, .int z3.1), (3, .int z3.2)] → W p l e rm_X5_daysOut s m args below meth c s.heap [] 0 0 Q (F0 m 4 ls [])) (E := fun x1 => ∀ (ls : Array Slot), lv_has ls 4 [(2, .int x1)] → W p l e rm_X5_daysOut s m args below meth c s.heap [] 0 0 Q (F0 m 38 ls [])) (fun z3 xx5 hB4 kI6 kE7 => ?_) _ _ _ h2 K14 ls (lv_sub hl [2, 3, 1, 0] rfl)
  intro ls hl
  unfold f_X5_daysOut_L4 at hB4
  refine lv_iload_n hx hb dX5_daysOut_4 rfl (lv_at hl 3 rfl) ?_
  refine lv_bipush (v := 64) hx hb dX5_daysOut_5 (by decide) ?_
  refine lv_icmp_ge (tgt := 38) hx hb dX5_daysOut_7 (by decide) (fun c8 => ?_) (fun c8 => ?_)
  · have hB4 := if_t hB4 c8
    exact kE7 _ (Option.some.inj hB4).symm ls (lv_sub hl [2] rfl)
  · have hB4 := if_f hB4 c8
    refine lv_iload_n hx hb dX5_daysOut_10 rfl (lv_at hl 2 rfl) ?_
    refine lv_aload_n hx hb dX5_daysOut_11 rfl (lv_at hl 0 rfl) ?_
    refine va_get (D := D) (ci := 5) (v := .ref (a 6)) (C := RX5) (T := TX5) (N := 19) hx hb hts hiRX5 hown hK hP 0 rfl rfl 6 (by decide) hf25 (fun _ h9 => h9) rfl dX5_daysOut_12 ?_
    refine lv_bipush (v := 64) hx hb dX5_daysOut_15 (by decide) ?_
    refine lv_iload_n hx hb dX5_daysOut_17 rfl (lv_at hl 1 rfl) ?_
    refine lv_imul hx hb dX5_daysOut_18 ?_
    refine lv_iload_n hx hb dX5_daysOut_19 rfl (lv_at hl 3 rfl) ?_
    refine lv_iadd hx hb dX5_daysOut_20 ?_
    obtain ⟨c9, hB4⟩ := gd_s hB4
    refine va_zald (D := D) hx hb hK hP 6 2 rfl rfl (ix_in c9) dX5_daysOut_21 ?_
    obtain ⟨x10, h11, hB4⟩ := bd_s hB4
    have K12 : W p l e rm_X5_daysOut s m args below meth c s.heap [] 0 0 Q (F0 m 30 ls [.int x10, .int z3.1]) := by
      refine lv_iadd hx hb dX5_daysOut_30 ?_
      refine lv_istore_n (lv' := [(2, .int (z3.1 + x10)), (0, .ref (a 0)), (1, .int y1), (3, .int z3.2)]) hx hb dX5_daysOut_31 rfl hl (by decide) rfl (fun ls hl => ?_)
      refine lv_iinc (v := (z3.2 + 1)) (lv' := [(3, .int (z3.2 + 1)), (2, .int (z3.1 + x10)), (0, .ref (a 0)), (1, .int y1)]) hx hb dX5_daysOut_32 hl (k := 3) rfl rfl (by decide) rfl (fun ls hl => ?_)
      refine lv_goto (tgt := 4) hx hb dX5_daysOut_35 (by decide) ?_
      exact kI6 _ (Option.some.inj hB4).symm ls (lv_sub hl [2, 3, 1, 0] rfl)
    refine lv_if_eq (tgt := 29) hx hb dX5_daysOut_22 (by decide) (fun c13 => ?_) (fun c13 => ?_)
    · have h11 := if_t h11 c13
      refine lv_iconst (v := 0) hx hb dX5_daysOut_29 (by decide) ?_
      obtain rfl := Option.some.inj h11
      exact K12
    · have h11 := if_f h11 c13
      refine lv_iconst (v := 1) hx hb dX5_daysOut_25 (by decide) ?_
      refine lv_goto (tgt := 30) hx hb dX5_daysOut_26 (by decide) ?_
      obtain rfl := Option.some.inj h11
      exact K12

abbrev rm_X5_daysRead : Room := { frames := 0, cells := 0, slots := 0, locals := 0 }
def f_X5_daysRead_L4 (M : ModelV) (y1 : Int32) (z : Int32 × Int32) : Option ((Int32 × Int32) ⊕ (Int32)) := if 64 ≤ z.2 then (some (.inr z.1)) else (gd (ix ((64 * y1) + z.2) 512) ((if (M.2.2.2.2.2.2.2.1 (((64 * y1) + z.2) : Int32).toNatClampNeg) < 0 then (some 0) else (some 1) : Option (Int32)).bind (fun x3 => some (.inl ((z.1 + x3), (z.2 + 1))))))
def f_X5_daysRead (M : ModelV) (y1 : Int32) : Option (Int32) := (lp (f_X5_daysRead_L4 M y1) fu (0, 0)).bind (fun x1 => some x1)
set_option maxHeartbeats 4000000 in
set_option maxRecDepth 100000 in
theorem c_X5_daysRead (l : Launch) (D : va_G) (k : Nat → ClassId) (a : Nat → Nat) (M : ModelV) (y1 : Int32) (r : Int32) (h : f_X5_daysRead M y1 = some r) : Met l yX5_daysRead wsX5_daysRead rm_X5_daysRead (va_Pc [.ref (a 0), .int y1] (RB D k (modelW k a M))) (QR (some (.int r))) 0 0 (fun _ => False) := by
  refine met_Ri (by decide) rfl (Nat.le_of_ble_eq_true rfl) ?_
  intro p e s m below meth c Q args ls hx hb hml hown hts hP hK hN hl hQ
  have hl : lv_has ls 4 [(0, .ref (a 0)), (1, .int y1)] := hl
  have hown : s.vm.findClass RX5 = some m.cls := hown
  unfold f_X5_daysRead at h
  have hiRX5 : ∀ w ∈ u_ws RX5 TX5 19, w ∈ wsX5_daysRead := by decide +kernel
  have hf29 := hts (.fieldLink RX5 29 "RainCellsModel" "readings" "[I") (by decide +kernel)
  refine lv_iconst (v := 0) hx hb dX5_daysRead_0 (by decide) ?_
  refine lv_istore_n (lv' := [(2, .int 0), (0, .ref (a 0)), (1, .int y1)]) hx hb dX5_daysRead_1 rfl hl (by decide) rfl (fun ls hl => ?_)
  refine lv_iconst (v := 0) hx hb dX5_daysRead_2 (by decide) ?_
  refine lv_istore_n (lv' := [(3, .int 0), (2, .int 0), (0, .ref (a 0)), (1, .int y1)]) hx hb dX5_daysRead_3 rfl hl (by decide) rfl (fun ls hl => ?_)
  obtain ⟨x1, h2, h⟩ := bd_s h
  have K14 : ∀ (ls : Array Slot), lv_has ls 4 [(2, .int x1)] → W p l e rm_X5_daysRead s m args below meth c s.heap [] 0 0 Q (F0 m 38 ls []) := by
    intro ls hl
    refine lv_iload_n hx hb dX5_daysRead_38 rfl (lv_at hl 0 rfl) ?_
    obtain rfl := Option.some.inj h
    exact hQ _ _ dX5_daysRead_39
  refine lp_W (P := fun z3 => ∀ (ls : Array Slot), lv_has ls 4 [(0, .ref (a 0)), (1, .int y1), (2, .int z3.1), (3, .int z3.2)] → W p l e rm_X5_daysRead s m args below meth c s.heap [] 0 0 Q (F0 m 4 ls [])) (E := fun x1 => ∀ (ls : Array Slot), lv_has ls 4 [(2, .int x1)] → W p l e rm_X5_daysRead s m args below meth c s.heap [] 0 0 Q (F0 m 38 ls [])) (fun z3 xx5 hB4 kI6 kE7 => ?_) _ _ _ h2 K14 ls (lv_sub hl [2, 3, 1, 0] rfl)
  intro ls hl
  unfold f_X5_daysRead_L4 at hB4
  refine lv_iload_n hx hb dX5_daysRead_4 rfl (lv_at hl 3 rfl) ?_
  refine lv_bipush (v := 64) hx hb dX5_daysRead_5 (by decide) ?_
  refine lv_icmp_ge (tgt := 38) hx hb dX5_daysRead_7 (by decide) (fun c8 => ?_) (fun c8 => ?_)
  · have hB4 := if_t hB4 c8
    exact kE7 _ (Option.some.inj hB4).symm ls (lv_sub hl [2] rfl)
  · have hB4 := if_f hB4 c8
    refine lv_iload_n hx hb dX5_daysRead_10 rfl (lv_at hl 2 rfl) ?_
    refine lv_aload_n hx hb dX5_daysRead_11 rfl (lv_at hl 0 rfl) ?_
    refine va_get (D := D) (ci := 5) (v := .ref (a 7)) (C := RX5) (T := TX5) (N := 19) hx hb hts hiRX5 hown hK hP 0 rfl rfl 7 (by decide) hf29 (fun _ h9 => h9) rfl dX5_daysRead_12 ?_
    refine lv_bipush (v := 64) hx hb dX5_daysRead_15 (by decide) ?_
    refine lv_iload_n hx hb dX5_daysRead_17 rfl (lv_at hl 1 rfl) ?_
    refine lv_imul hx hb dX5_daysRead_18 ?_
    refine lv_iload_n hx hb dX5_daysRead_19 rfl (lv_at hl 3 rfl) ?_
    refine lv_iadd hx hb dX5_daysRead_20 ?_
    obtain ⟨c9, hB4⟩ := gd_s hB4
    refine va_iald (D := D) hx hb hK hP 7 0 rfl rfl (ix_in c9) dX5_daysRead_21 ?_
    obtain ⟨x10, h11, hB4⟩ := bd_s hB4
    have K12 : W p l e rm_X5_daysRead s m args below meth c s.heap [] 0 0 Q (F0 m 30 ls [.int x10, .int z3.1]) := by
      refine lv_iadd hx hb dX5_daysRead_30 ?_
      refine lv_istore_n (lv' := [(2, .int (z3.1 + x10)), (0, .ref (a 0)), (1, .int y1), (3, .int z3.2)]) hx hb dX5_daysRead_31 rfl hl (by decide) rfl (fun ls hl => ?_)
      refine lv_iinc (v := (z3.2 + 1)) (lv' := [(3, .int (z3.2 + 1)), (2, .int (z3.1 + x10)), (0, .ref (a 0)), (1, .int y1)]) hx hb dX5_daysRead_32 hl (k := 3) rfl rfl (by decide) rfl (fun ls hl => ?_)
      refine lv_goto (tgt := 4) hx hb dX5_daysRead_35 (by decide) ?_
      exact kI6 _ (Option.some.inj hB4).symm ls (lv_sub hl [2, 3, 1, 0] rfl)
    refine lv_if_lt (tgt := 29) hx hb dX5_daysRead_22 (by decide) (fun c13 => ?_) (fun c13 => ?_)
    · have h11 := if_t h11 c13
      refine lv_iconst (v := 0) hx hb dX5_daysRead_29 (by decide) ?_
      obtain rfl := Option.some.inj h11
      exact K12
    · have h11 := if_f h11 c13
      refine lv_iconst (v := 1) hx hb dX5_daysRead_25 (by decide) ?_
      refine lv_goto (tgt := 30) hx hb dX5_daysRead_26 (by decide) ?_
      obtain rfl := Option.some.inj h11
      exact K12

abbrev rm_X5_workingOn : Room := { frames := 0, cells := 0, slots := 0, locals := 0 }
def f_X5_workingOn_L4 (M : ModelV) (y1 : Int32) (z : Int32 × Int32) : Option ((Int32 × Int32) ⊕ (Int32)) := if M.2.2.1 ≤ z.2 then (some (.inr z.1)) else (gd (ix ((64 * z.2) + y1) 512) ((if (M.2.2.2.2.2.2.1 (((64 * z.2) + y1) : Int32).toNatClampNeg) = 0 then (gd (ix ((64 * z.2) + y1) 512) (if (M.2.2.2.2.2.2.2.1 (((64 * z.2) + y1) : Int32).toNatClampNeg) < 0 then (some 0) else (some ((1 : Int32) <<< (z.2 &&& 31))))) else (some 0) : Option (Int32)).bind (fun x3 => some (.inl ((z.1 ||| x3), (z.2 + 1))))))
def f_X5_workingOn (M : ModelV) (y1 : Int32) : Option (Int32) := (lp (f_X5_workingOn_L4 M y1) fu (0, 0)).bind (fun x1 => some x1)
set_option maxHeartbeats 4000000 in
set_option maxRecDepth 100000 in
theorem c_X5_workingOn (l : Launch) (D : va_G) (k : Nat → ClassId) (a : Nat → Nat) (M : ModelV) (y1 : Int32) (r : Int32) (h : f_X5_workingOn M y1 = some r) : Met l yX5_workingOn wsX5_workingOn rm_X5_workingOn (va_Pc [.ref (a 0), .int y1] (RB D k (modelW k a M))) (QR (some (.int r))) 0 0 (fun _ => False) := by
  refine met_Ri (by decide) rfl (Nat.le_of_ble_eq_true rfl) ?_
  intro p e s m below meth c Q args ls hx hb hml hown hts hP hK hN hl hQ
  have hl : lv_has ls 4 [(0, .ref (a 0)), (1, .int y1)] := hl
  have hown : s.vm.findClass RX5 = some m.cls := hown
  unfold f_X5_workingOn at h
  have hiRX5 : ∀ w ∈ u_ws RX5 TX5 19, w ∈ wsX5_workingOn := by decide +kernel
  have hf53 := hts (.fieldLink RX5 53 "RainCellsModel" "many" "I") (by decide +kernel)
  have hf25 := hts (.fieldLink RX5 25 "RainCellsModel" "isOut" "[Z") (by decide +kernel)
  have hf29 := hts (.fieldLink RX5 29 "RainCellsModel" "readings" "[I") (by decide +kernel)
  refine lv_iconst (v := 0) hx hb dX5_workingOn_0 (by decide) ?_
  refine lv_istore_n (lv' := [(2, .int 0), (0, .ref (a 0)), (1, .int y1)]) hx hb dX5_workingOn_1 rfl hl (by decide) rfl (fun ls hl => ?_)
  refine lv_iconst (v := 0) hx hb dX5_workingOn_2 (by decide) ?_
  refine lv_istore_n (lv' := [(3, .int 0), (2, .int 0), (0, .ref (a 0)), (1, .int y1)]) hx hb dX5_workingOn_3 rfl hl (by decide) rfl (fun ls hl => ?_)
  obtain ⟨x1, h2, h⟩ := bd_s h
  have K16 : ∀ (ls : Array Slot), lv_has ls 4 [(2, .int x1)] → W p l e rm_X5_workingOn s m args below meth c s.heap [] 0 0 Q (F0 m 56 ls []) := by
    intro ls hl
    refine lv_iload_n hx hb dX5_workingOn_56 rfl (lv_at hl 0 rfl) ?_
    obtain rfl := Option.some.inj h
    exact hQ _ _ dX5_workingOn_57
  refine lp_W (P := fun z3 => ∀ (ls : Array Slot), lv_has ls 4 [(0, .ref (a 0)), (1, .int y1), (2, .int z3.1), (3, .int z3.2)] → W p l e rm_X5_workingOn s m args below meth c s.heap [] 0 0 Q (F0 m 4 ls [])) (E := fun x1 => ∀ (ls : Array Slot), lv_has ls 4 [(2, .int x1)] → W p l e rm_X5_workingOn s m args below meth c s.heap [] 0 0 Q (F0 m 56 ls [])) (fun z3 xx5 hB4 kI6 kE7 => ?_) _ _ _ h2 K16 ls (lv_sub hl [2, 3, 1, 0] rfl)
  intro ls hl
  unfold f_X5_workingOn_L4 at hB4
  refine lv_iload_n hx hb dX5_workingOn_4 rfl (lv_at hl 3 rfl) ?_
  refine lv_aload_n hx hb dX5_workingOn_5 rfl (lv_at hl 0 rfl) ?_
  refine va_get (D := D) (ci := 5) (v := .int M.2.2.1) (C := RX5) (T := TX5) (N := 19) hx hb hts hiRX5 hown hK hP 0 rfl rfl 2 (by decide) hf53 (fun _ h9 => h9) rfl dX5_workingOn_6 ?_
  refine lv_icmp_ge (tgt := 56) hx hb dX5_workingOn_9 (by decide) (fun c8 => ?_) (fun c8 => ?_)
  · have hB4 := if_t hB4 c8
    exact kE7 _ (Option.some.inj hB4).symm ls (lv_sub hl [2] rfl)
  · have hB4 := if_f hB4 c8
    refine lv_iload_n hx hb dX5_workingOn_12 rfl (lv_at hl 2 rfl) ?_
    refine lv_aload_n hx hb dX5_workingOn_13 rfl (lv_at hl 0 rfl) ?_
    refine va_get (D := D) (ci := 5) (v := .ref (a 6)) (C := RX5) (T := TX5) (N := 19) hx hb hts hiRX5 hown hK hP 0 rfl rfl 6 (by decide) hf25 (fun _ h9 => h9) rfl dX5_workingOn_14 ?_
    refine lv_bipush (v := 64) hx hb dX5_workingOn_17 (by decide) ?_
    refine lv_iload_n hx hb dX5_workingOn_19 rfl (lv_at hl 3 rfl) ?_
    refine lv_imul hx hb dX5_workingOn_20 ?_
    refine lv_iload_n hx hb dX5_workingOn_21 rfl (lv_at hl 1 rfl) ?_
    refine lv_iadd hx hb dX5_workingOn_22 ?_
    obtain ⟨c9, hB4⟩ := gd_s hB4
    refine va_zald (D := D) hx hb hK hP 6 2 rfl rfl (ix_in c9) dX5_workingOn_23 ?_
    obtain ⟨x10, h11, hB4⟩ := bd_s hB4
    have K12 : W p l e rm_X5_workingOn s m args below meth c s.heap [] 0 0 Q (F0 m 48 ls [.int x10, .int z3.1]) := by
      refine lv_ior hx hb dX5_workingOn_48 ?_
      refine lv_istore_n (lv' := [(2, .int (z3.1 ||| x10)), (0, .ref (a 0)), (1, .int y1), (3, .int z3.2)]) hx hb dX5_workingOn_49 rfl hl (by decide) rfl (fun ls hl => ?_)
      refine lv_iinc (v := (z3.2 + 1)) (lv' := [(3, .int (z3.2 + 1)), (2, .int (z3.1 ||| x10)), (0, .ref (a 0)), (1, .int y1)]) hx hb dX5_workingOn_50 hl (k := 3) rfl rfl (by decide) rfl (fun ls hl => ?_)
      refine lv_goto (tgt := 4) hx hb dX5_workingOn_53 (by decide) ?_
      exact kI6 _ (Option.some.inj hB4).symm ls (lv_sub hl [2, 3, 1, 0] rfl)
    refine lv_if_ne (tgt := 47) hx hb dX5_workingOn_24 (by decide) (fun c13 => ?_) (fun c13 => ?_)
    · have h11 := if_f h11 c13
      refine lv_iconst (v := 0) hx hb dX5_workingOn_47 (by decide) ?_
      obtain rfl := Option.some.inj h11
      exact K12
    · have h11 := if_t h11 c13
      refine lv_aload_n hx hb dX5_workingOn_27 rfl (lv_at hl 0 rfl) ?_
      refine va_get (D := D) (ci := 5) (v := .ref (a 7)) (C := RX5) (T := TX5) (N := 19) hx hb hts hiRX5 hown hK hP 0 rfl rfl 7 (by decide) hf29 (fun _ h9 => h9) rfl dX5_workingOn_28 ?_
      refine lv_bipush (v := 64) hx hb dX5_workingOn_31 (by decide) ?_
      refine lv_iload_n hx hb dX5_workingOn_33 rfl (lv_at hl 3 rfl) ?_
      refine lv_imul hx hb dX5_workingOn_34 ?_
      refine lv_iload_n hx hb dX5_workingOn_35 rfl (lv_at hl 1 rfl) ?_
      refine lv_iadd hx hb dX5_workingOn_36 ?_
      obtain ⟨c14, h11⟩ := gd_s h11
      refine va_iald (D := D) hx hb hK hP 7 0 rfl rfl (ix_in c14) dX5_workingOn_37 ?_
      refine lv_if_lt (tgt := 47) hx hb dX5_workingOn_38 (by decide) (fun c15 => ?_) (fun c15 => ?_)
      · have h11 := if_t h11 c15
        refine lv_iconst (v := 0) hx hb dX5_workingOn_47 (by decide) ?_
        obtain rfl := Option.some.inj h11
        exact K12
      · have h11 := if_f h11 c15
        refine lv_iconst (v := 1) hx hb dX5_workingOn_41 (by decide) ?_
        refine lv_iload_n hx hb dX5_workingOn_42 rfl (lv_at hl 3 rfl) ?_
        refine lv_ishl hx hb dX5_workingOn_43 ?_
        refine lv_goto (tgt := 48) hx hb dX5_workingOn_44 (by decide) ?_
        obtain rfl := Option.some.inj h11
        exact K12

abbrev rm_X5_far : Room := { frames := 1, cells := 0, slots := 0, locals := 20 }
def f_X5_far (M : ModelV) (y1 : Int32) (y2 : Int32) (y3 : Int32) : Option (Int32) := gd (ix y1 8) ((f_X5_square (y2 - (M.2.2.2.1 (y1 : Int32).toNatClampNeg))).bind (fun x2 => gd (ix y1 8) ((f_X5_square (y3 - (M.2.2.2.2.1 (y1 : Int32).toNatClampNeg))).bind (fun x5 => some (x2 + x5)))))
set_option maxHeartbeats 4000000 in
set_option maxRecDepth 100000 in
theorem c_X5_far (l : Launch) (D : va_G) (k : Nat → ClassId) (a : Nat → Nat) (M : ModelV) (y1 : Int32) (y2 : Int32) (y3 : Int32) (r : Int32) (h : f_X5_far M y1 y2 y3 = some r) : Met l yX5_far wsX5_far rm_X5_far (va_Pc [.ref (a 0), .int y1, .int y2, .int y3] (RB D k (modelW k a M))) (QR (some (.int r))) 0 0 (fun _ => False) := by
  refine met_Ri (by decide) rfl (Nat.le_of_ble_eq_true rfl) ?_
  intro p e s m below meth c Q args ls hx hb hml hown hts hP hK hN hl hQ
  have hl : lv_has ls 4 [(0, .ref (a 0)), (1, .int y1), (2, .int y2), (3, .int y3)] := hl
  have hown : s.vm.findClass RX5 = some m.cls := hown
  unfold f_X5_far at h
  have hiRX5 : ∀ w ∈ u_ws RX5 TX5 19, w ∈ wsX5_far := by decide +kernel
  have hf16 := hts (.fieldLink RX5 16 "RainCellsModel" "px" "[I") (by decide +kernel)
  have hf19 := hts (.fieldLink RX5 19 "RainCellsModel" "py" "[I") (by decide +kernel)
  refine lv_iload_n hx hb dX5_far_0 rfl (lv_at hl 2 rfl) ?_
  refine lv_aload_n hx hb dX5_far_1 rfl (lv_at hl 0 rfl) ?_
  refine va_get (D := D) (ci := 5) (v := .ref (a 3)) (C := RX5) (T := TX5) (N := 19) hx hb hts hiRX5 hown hK hP 0 rfl rfl 3 (by decide) hf16 (fun _ h9 => h9) rfl dX5_far_2 ?_
  refine lv_iload_n hx hb dX5_far_5 rfl (lv_at hl 1 rfl) ?_
  obtain ⟨c1, h⟩ := gd_s h
  refine va_iald (D := D) hx hb hK hP 3 0 rfl rfl (ix_in c1) dX5_far_6 ?_
  refine lv_isub hx hb dX5_far_7 ?_
  obtain ⟨x2, h3, h⟩ := bd_s h
  refine cR_S (As := [.int (y2 - (M.2.2.2.1 (y1 : Int32).toNatClampNeg))]) (rest := []) (n := 1) (v := .int x2) hx hb hml hown hts hK hN hl.1 (c_X5_square l D k (y2 - (M.2.2.2.1 (y1 : Int32).toNatClampNeg)) x2 h3) gX5_far_X5_square rfl (by decide +kernel) ⟨⟨rfl, rfl⟩, by decide, by decide⟩ va_P_nil rfl rfl (Nat.le_of_ble_eq_true rfl) dX5_far_8 ⟨Nat.zero_le _, Nat.zero_le _⟩ ?_
  refine lv_iload_n hx hb dX5_far_11 rfl (lv_at hl 3 rfl) ?_
  refine lv_aload_n hx hb dX5_far_12 rfl (lv_at hl 0 rfl) ?_
  refine va_get (D := D) (ci := 5) (v := .ref (a 4)) (C := RX5) (T := TX5) (N := 19) hx hb hts hiRX5 hown hK hP 0 rfl rfl 4 (by decide) hf19 (fun _ h9 => h9) rfl dX5_far_13 ?_
  refine lv_iload_n hx hb dX5_far_16 rfl (lv_at hl 1 rfl) ?_
  obtain ⟨c4, h⟩ := gd_s h
  refine va_iald (D := D) hx hb hK hP 4 0 rfl rfl (ix_in c4) dX5_far_17 ?_
  refine lv_isub hx hb dX5_far_18 ?_
  obtain ⟨x5, h6, h⟩ := bd_s h
  refine cR_S (As := [.int (y3 - (M.2.2.2.2.1 (y1 : Int32).toNatClampNeg))]) (rest := [.int x2]) (n := 1) (v := .int x5) hx hb hml hown hts hK hN hl.1 (c_X5_square l D k (y3 - (M.2.2.2.2.1 (y1 : Int32).toNatClampNeg)) x5 h6) gX5_far_X5_square rfl (by decide +kernel) ⟨⟨rfl, rfl⟩, by decide, by decide⟩ va_P_nil rfl rfl (Nat.le_of_ble_eq_true rfl) dX5_far_19 ⟨Nat.zero_le _, Nat.zero_le _⟩ ?_
  refine lv_iadd hx hb dX5_far_22 ?_
  obtain rfl := Option.some.inj h
  exact hQ _ _ dX5_far_23

abbrev rm_X5_ownerOf : Room := { frames := 2, cells := 0, slots := 0, locals := 43 }
def f_X5_ownerOf_L10 (M : ModelV) (y1 : Int32) (y2 : Int32) (y3 : Int32) (z : Int32 × Int32 × Int32) : Option ((Int32 × Int32 × Int32) ⊕ (Int32)) := if M.2.2.1 ≤ z.2.2 then (some (.inr z.1)) else ((f_X5_far M z.2.2 y2 y3).bind (fun x2 => gd (ix z.2.2 8) ((f_X5_has y1 z.2.2).bind (fun x5 => (if (b2i x5) = 0 then (some (z.1, z.2.1)) else (if z.1 < 0 then (some (z.2.2, (x2 - (M.2.2.2.2.2.1 (z.2.2 : Int32).toNatClampNeg)))) else (if z.2.1 ≤ (x2 - (M.2.2.2.2.2.1 (z.2.2 : Int32).toNatClampNeg)) then (some (z.1, z.2.1)) else (some (z.2.2, (x2 - (M.2.2.2.2.2.1 (z.2.2 : Int32).toNatClampNeg)))))) : Option (Int32 × Int32)).bind (fun x7 => some (.inl (x7.1, x7.2, (z.2.2 + 1))))))))
def f_X5_ownerOf (M : ModelV) (y1 : Int32) (y2 : Int32) (y3 : Int32) : Option (Int32) := (lp (f_X5_ownerOf_L10 M y1 y2 y3) fu ((-6), 0, 0)).bind (fun x1 => some x1)
set_option maxHeartbeats 4000000 in
set_option maxRecDepth 100000 in
theorem c_X5_ownerOf (l : Launch) (D : va_G) (k : Nat → ClassId) (a : Nat → Nat) (M : ModelV) (y1 : Int32) (y2 : Int32) (y3 : Int32) (r : Int32) (h : f_X5_ownerOf M y1 y2 y3 = some r) : Met l yX5_ownerOf wsX5_ownerOf rm_X5_ownerOf (va_Pc [.ref (a 0), .int y1, .int y2, .int y3] (RB D k (modelW k a M))) (QR (some (.int r))) 0 0 (fun _ => False) := by
  refine met_Ri (by decide) rfl (Nat.le_of_ble_eq_true rfl) ?_
  intro p e s m below meth c Q args ls hx hb hml hown hts hP hK hN hl hQ
  have hl : lv_has ls 8 [(0, .ref (a 0)), (1, .int y1), (2, .int y2), (3, .int y3)] := hl
  have hown : s.vm.findClass RX5 = some m.cls := hown
  unfold f_X5_ownerOf at h
  have hiRX5 : ∀ w ∈ u_ws RX5 TX5 19, w ∈ wsX5_ownerOf := by decide +kernel
  have hf53 := hts (.fieldLink RX5 53 "RainCellsModel" "many" "I") (by decide +kernel)
  have hf22 := hts (.fieldLink RX5 22 "RainCellsModel" "reach" "[I") (by decide +kernel)
  refine lv_bipush (v := (-6)) hx hb dX5_ownerOf_0 (by decide) ?_
  refine lv_istore (lv' := [(4, .int (-6)), (0, .ref (a 0)), (1, .int y1), (2, .int y2), (3, .int y3)]) hx hb dX5_ownerOf_2 hl (by decide) rfl (fun ls hl => ?_)
  refine lv_iconst (v := 0) hx hb dX5_ownerOf_4 (by decide) ?_
  refine lv_istore (lv' := [(5, .int 0), (4, .int (-6)), (0, .ref (a 0)), (1, .int y1), (2, .int y2), (3, .int y3)]) hx hb dX5_ownerOf_5 hl (by decide) rfl (fun ls hl => ?_)
  refine lv_iconst (v := 0) hx hb dX5_ownerOf_7 (by decide) ?_
  refine lv_istore (lv' := [(6, .int 0), (5, .int 0), (4, .int (-6)), (0, .ref (a 0)), (1, .int y1), (2, .int y2), (3, .int y3)]) hx hb dX5_ownerOf_8 hl (by decide) rfl (fun ls hl => ?_)
  obtain ⟨x1, h2, h⟩ := bd_s h
  have K20 : ∀ (ls : Array Slot), lv_has ls 8 [(4, .int x1)] → W p l e rm_X5_ownerOf s m args below meth c s.heap [] 0 0 Q (F0 m 72 ls []) := by
    intro ls hl
    refine lv_iload hx hb dX5_ownerOf_72 (lv_at hl 0 rfl) ?_
    obtain rfl := Option.some.inj h
    exact hQ _ _ dX5_ownerOf_74
  refine lp_W (P := fun z3 => ∀ (ls : Array Slot), lv_has ls 8 [(0, .ref (a 0)), (1, .int y1), (2, .int y2), (3, .int y3), (4, .int z3.1), (5, .int z3.2.1), (6, .int z3.2.2)] → W p l e rm_X5_ownerOf s m args below meth c s.heap [] 0 0 Q (F0 m 10 ls [])) (E := fun x1 => ∀ (ls : Array Slot), lv_has ls 8 [(4, .int x1)] → W p l e rm_X5_ownerOf s m args below meth c s.heap [] 0 0 Q (F0 m 72 ls [])) (fun z3 xx5 hB4 kI6 kE7 => ?_) _ _ _ h2 K20 ls (lv_sub hl [3, 4, 5, 6, 2, 1, 0] rfl)
  intro ls hl
  unfold f_X5_ownerOf_L10 at hB4
  refine lv_iload hx hb dX5_ownerOf_10 (lv_at hl 6 rfl) ?_
  refine lv_aload_n hx hb dX5_ownerOf_12 rfl (lv_at hl 0 rfl) ?_
  refine va_get (D := D) (ci := 5) (v := .int M.2.2.1) (C := RX5) (T := TX5) (N := 19) hx hb hts hiRX5 hown hK hP 0 rfl rfl 2 (by decide) hf53 (fun _ h9 => h9) rfl dX5_ownerOf_13 ?_
  refine lv_icmp_ge (tgt := 72) hx hb dX5_ownerOf_16 (by decide) (fun c8 => ?_) (fun c8 => ?_)
  · have hB4 := if_t hB4 c8
    exact kE7 _ (Option.some.inj hB4).symm ls (lv_sub hl [4] rfl)
  · have hB4 := if_f hB4 c8
    refine lv_aload_n hx hb dX5_ownerOf_19 rfl (lv_at hl 0 rfl) ?_
    refine lv_iload hx hb dX5_ownerOf_20 (lv_at hl 6 rfl) ?_
    refine lv_iload_n hx hb dX5_ownerOf_22 rfl (lv_at hl 2 rfl) ?_
    refine lv_iload_n hx hb dX5_ownerOf_23 rfl (lv_at hl 3 rfl) ?_
    obtain ⟨x9, h10, hB4⟩ := bd_s hB4
    refine cR_V (As := [.int z3.2.2, .int y2, .int y3]) (rest := []) (n := 3) (v := .int x9) hx hb hml hown hts hK hN hl.1 (c_X5_far l D k a M z3.2.2 y2 y3 x9 h10) gX5_ownerOf_X5_far rfl (by decide +kernel) ⟨⟨rfl, rfl⟩, by decide, by decide⟩ hP 0 5 rfl rfl rfl rfl rfl (Nat.le_of_ble_eq_true rfl) dX5_ownerOf_24 ⟨Nat.zero_le _, Nat.zero_le _⟩ ?_
    refine lv_aload_n hx hb dX5_ownerOf_27 rfl (lv_at hl 0 rfl) ?_
    refine va_get (D := D) (ci := 5) (v := .ref (a 5)) (C := RX5) (T := TX5) (N := 19) hx hb hts hiRX5 hown hK hP 0 rfl rfl 5 (by decide) hf22 (fun _ h9 => h9) rfl dX5_ownerOf_28 ?_
    refine lv_iload hx hb dX5_ownerOf_31 (lv_at hl 6 rfl) ?_
    obtain ⟨c11, hB4⟩ := gd_s hB4
    refine va_iald (D := D) hx hb hK hP 5 0 rfl rfl (ix_in c11) dX5_ownerOf_33 ?_
    refine lv_isub hx hb dX5_ownerOf_34 ?_
    refine lv_istore (lv' := [(7, .int (x9 - (M.2.2.2.2.2.1 (z3.2.2 : Int32).toNatClampNeg))), (0, .ref (a 0)), (1, .int y1), (2, .int y2), (3, .int y3), (4, .int z3.1), (5, .int z3.2.1), (6, .int z3.2.2)]) hx hb dX5_ownerOf_35 hl (by decide) rfl (fun ls hl => ?_)
    refine lv_iload_n hx hb dX5_ownerOf_37 rfl (lv_at hl 2 rfl) ?_
    refine lv_iload hx hb dX5_ownerOf_38 (lv_at hl 7 rfl) ?_
    obtain ⟨x12, h13, hB4⟩ := bd_s hB4
    refine cR_S (As := [.int y1, .int z3.2.2]) (rest := []) (n := 2) (v := .int (b2i x12)) hx hb hml hown hts hK hN hl.1 (c_X5_has l D k y1 z3.2.2 x12 h13) gX5_ownerOf_X5_has rfl (by decide +kernel) ⟨⟨rfl, rfl⟩, by decide, by decide⟩ va_P_nil rfl rfl (Nat.le_of_ble_eq_true rfl) dX5_ownerOf_40 ⟨Nat.zero_le _, Nat.zero_le _⟩ ?_
    obtain ⟨x14, h15, hB4⟩ := bd_s hB4
    have K16 : ∀ (ls : Array Slot), lv_has ls 8 [(0, .ref (a 0)), (1, .int y1), (2, .int y2), (3, .int y3), (4, .int x14.1), (5, .int x14.2), (6, .int z3.2.2)] → W p l e rm_X5_ownerOf s m args below meth c s.heap [] 0 0 Q (F0 m 66 ls []) := by
      intro ls hl
      refine lv_iinc (v := (z3.2.2 + 1)) (lv' := [(6, .int (z3.2.2 + 1)), (0, .ref (a 0)), (1, .int y1), (2, .int y2), (3, .int y3), (4, .int x14.1), (5, .int x14.2)]) hx hb dX5_ownerOf_66 hl (k := 6) rfl rfl (by decide) rfl (fun ls hl => ?_)
      refine lv_goto (tgt := 10) hx hb dX5_ownerOf_69 (by decide) ?_
      exact kI6 _ (Option.some.inj hB4).symm ls (lv_sub hl [1, 2, 3, 4, 5, 6, 0] rfl)
    refine lv_if_eq (tgt := 66) hx hb dX5_ownerOf_43 (by decide) (fun c17 => ?_) (fun c17 => ?_)
    · have h15 := if_t h15 c17
      obtain rfl := Option.some.inj h15
      exact K16 ls (lv_sub hl [1, 2, 3, 4, 5, 6, 7] rfl)
    · have h15 := if_f h15 c17
      refine lv_iload hx hb dX5_ownerOf_46 (lv_at hl 5 rfl) ?_
      refine lv_if_lt (tgt := 58) hx hb dX5_ownerOf_48 (by decide) (fun c18 => ?_) (fun c18 => ?_)
      · have h15 := if_t h15 c18
        refine lv_iload hx hb dX5_ownerOf_58 (lv_at hl 7 rfl) ?_
        refine lv_istore (lv' := [(4, .int z3.2.2), (7, .int (x9 - (M.2.2.2.2.2.1 (z3.2.2 : Int32).toNatClampNeg))), (0, .ref (a 0)), (1, .int y1), (2, .int y2), (3, .int y3), (5, .int z3.2.1), (6, .int z3.2.2)]) hx hb dX5_ownerOf_60 hl (by decide) rfl (fun ls hl => ?_)
        refine lv_iload hx hb dX5_ownerOf_62 (lv_at hl 1 rfl) ?_
        refine lv_istore (lv' := [(5, .int (x9 - (M.2.2.2.2.2.1 (z3.2.2 : Int32).toNatClampNeg))), (4, .int z3.2.2), (7, .int (x9 - (M.2.2.2.2.2.1 (z3.2.2 : Int32).toNatClampNeg))), (0, .ref (a 0)), (1, .int y1), (2, .int y2), (3, .int y3), (6, .int z3.2.2)]) hx hb dX5_ownerOf_64 hl (by decide) rfl (fun ls hl => ?_)
        obtain rfl := Option.some.inj h15
        exact K16 ls (lv_sub hl [3, 4, 5, 6, 1, 0, 7] rfl)
      · have h15 := if_f h15 c18
        refine lv_iload hx hb dX5_ownerOf_51 (lv_at hl 0 rfl) ?_
        refine lv_iload hx hb dX5_ownerOf_53 (lv_at hl 6 rfl) ?_
        refine lv_icmp_ge (tgt := 66) hx hb dX5_ownerOf_55 (by decide) (fun c19 => ?_) (fun c19 => ?_)
        · have h15 := if_t h15 c19
          obtain rfl := Option.some.inj h15
          exact K16 ls (lv_sub hl [1, 2, 3, 4, 5, 6, 7] rfl)
        · have h15 := if_f h15 c19
          refine lv_iload hx hb dX5_ownerOf_58 (lv_at hl 7 rfl) ?_
          refine lv_istore (lv' := [(4, .int z3.2.2), (7, .int (x9 - (M.2.2.2.2.2.1 (z3.2.2 : Int32).toNatClampNeg))), (0, .ref (a 0)), (1, .int y1), (2, .int y2), (3, .int y3), (5, .int z3.2.1), (6, .int z3.2.2)]) hx hb dX5_ownerOf_60 hl (by decide) rfl (fun ls hl => ?_)
          refine lv_iload hx hb dX5_ownerOf_62 (lv_at hl 1 rfl) ?_
          refine lv_istore (lv' := [(5, .int (x9 - (M.2.2.2.2.2.1 (z3.2.2 : Int32).toNatClampNeg))), (4, .int z3.2.2), (7, .int (x9 - (M.2.2.2.2.2.1 (z3.2.2 : Int32).toNatClampNeg))), (0, .ref (a 0)), (1, .int y1), (2, .int y2), (3, .int y3), (6, .int z3.2.2)]) hx hb dX5_ownerOf_64 hl (by decide) rfl (fun ls hl => ?_)
          obtain rfl := Option.some.inj h15
          exact K16 ls (lv_sub hl [3, 4, 5, 6, 1, 0, 7] rfl)

abbrev rm_X5_row : Room := { frames := 1, cells := 0, slots := 0, locals := 22 }
def f_X5_row (M : ModelV) (y1 : Int32) (y2 : Int32) (y3 : Int32) : Option (Int32 × ModelV) := (f_X5_in y1 0 15).bind (fun x1 => if (b2i x1) = 0 then (some ((-2), M)) else ((f_X5_in y2 0 15).bind (fun x4 => if (b2i x4) = 0 then (some ((-2), M)) else ((f_X5_in y3 0 15).bind (fun x7 => if (b2i x7) = 0 then (some ((-2), M)) else (gd (ix y1 16) (gd (ix y1 16) ((f_X5_plots ((upd M.1 (y1 : Int32).toNatClampNeg y2), (upd M.2.1 (y1 : Int32).toNatClampNeg y3), M.2.2.1, M.2.2.2.1, M.2.2.2.2.1, M.2.2.2.2.2.1, M.2.2.2.2.2.2.1, M.2.2.2.2.2.2.2.1, M.2.2.2.2.2.2.2.2.1, 0, M.2.2.2.2.2.2.2.2.2.2)).bind (fun x12 => some (x12, ((upd M.1 (y1 : Int32).toNatClampNeg y2), (upd M.2.1 (y1 : Int32).toNatClampNeg y3), M.2.2.1, M.2.2.2.1, M.2.2.2.2.1, M.2.2.2.2.2.1, M.2.2.2.2.2.2.1, M.2.2.2.2.2.2.2.1, M.2.2.2.2.2.2.2.2.1, 0, M.2.2.2.2.2.2.2.2.2.2)))))))))))
set_option maxHeartbeats 4000000 in
set_option maxRecDepth 100000 in
theorem c_X5_row (l : Launch) (D : va_G) (k : Nat → ClassId) (a : Nat → Nat) (M : ModelV) (y1 : Int32) (y2 : Int32) (y3 : Int32) (r : Int32 × ModelV) (h : f_X5_row M y1 y2 y3 = some r) : Met l yX5_row wsX5_row rm_X5_row (va_Pc [.ref (a 0), .int y1, .int y2, .int y3] (MB D k (modelW k a M))) (QM D (modelW k a M) (modelW k a r.2) (some (.int r.1))) 0 0 (AD (modelW k a M)) := by
  refine met_Mi (by decide) rfl (Nat.le_of_ble_eq_true rfl) ?_
  intro p e s m below meth c Q args ls hx hb hml hown hts hP hK hN hD hl hQ
  have hl : lv_has ls 4 [(0, .ref (a 0)), (1, .int y1), (2, .int y2), (3, .int y3)] := hl
  have hown : s.vm.findClass RX5 = some m.cls := hown
  unfold f_X5_row at h
  have hiRX5 : ∀ w ∈ u_ws RX5 TX5 19, w ∈ wsX5_row := by decide +kernel
  have hf7 := hts (.fieldLink RX5 7 "RainCellsModel" "from" "[I") (by decide +kernel)
  have hf13 := hts (.fieldLink RX5 13 "RainCellsModel" "to" "[I") (by decide +kernel)
  have hf61 := hts (.fieldLink RX5 61 "RainCellsModel" "kept" "I") (by decide +kernel)
  generalize AD (modelW k a M) = A0 at hD hQ
  have hS : va_S A0 s.heap s.heap [] := va_S.rf
  refine lv_iload_n hx hb dX5_row_0 rfl (lv_at hl 1 rfl) ?_
  refine lv_iconst (v := 0) hx hb dX5_row_1 (by decide) ?_
  refine lv_bipush (v := 15) hx hb dX5_row_2 (by decide) ?_
  obtain ⟨x1, h2, h⟩ := bd_s h
  refine cR_S (As := [.int y1, .int 0, .int 15]) (rest := []) (n := 3) (v := .int (b2i x1)) hx hb hml hown hts hK hN hl.1 (c_X5_in l D k y1 0 15 x1 h2) gX5_row_X5_in rfl (by decide +kernel) ⟨⟨rfl, rfl⟩, by decide, by decide⟩ va_P_nil rfl rfl (Nat.le_of_ble_eq_true rfl) dX5_row_4 ⟨Nat.zero_le _, Nat.zero_le _⟩ ?_
  refine lv_if_eq (tgt := 30) hx hb dX5_row_7 (by decide) (fun c3 => ?_) (fun c3 => ?_)
  · have h := if_t h c3
    refine lv_bipush (v := (-2)) hx hb dX5_row_30 (by decide) ?_
    obtain rfl := Option.some.inj h
    exact hQ _ _ _ _ dX5_row_32 hP hS
  · have h := if_f h c3
    refine lv_iload_n hx hb dX5_row_10 rfl (lv_at hl 2 rfl) ?_
    refine lv_iconst (v := 0) hx hb dX5_row_11 (by decide) ?_
    refine lv_bipush (v := 15) hx hb dX5_row_12 (by decide) ?_
    obtain ⟨x4, h5, h⟩ := bd_s h
    refine cR_S (As := [.int y2, .int 0, .int 15]) (rest := []) (n := 3) (v := .int (b2i x4)) hx hb hml hown hts hK hN hl.1 (c_X5_in l D k y2 0 15 x4 h5) gX5_row_X5_in rfl (by decide +kernel) ⟨⟨rfl, rfl⟩, by decide, by decide⟩ va_P_nil rfl rfl (Nat.le_of_ble_eq_true rfl) dX5_row_14 ⟨Nat.zero_le _, Nat.zero_le _⟩ ?_
    refine lv_if_eq (tgt := 30) hx hb dX5_row_17 (by decide) (fun c6 => ?_) (fun c6 => ?_)
    · have h := if_t h c6
      refine lv_bipush (v := (-2)) hx hb dX5_row_30 (by decide) ?_
      obtain rfl := Option.some.inj h
      exact hQ _ _ _ _ dX5_row_32 hP hS
    · have h := if_f h c6
      refine lv_iload_n hx hb dX5_row_20 rfl (lv_at hl 3 rfl) ?_
      refine lv_iconst (v := 0) hx hb dX5_row_21 (by decide) ?_
      refine lv_bipush (v := 15) hx hb dX5_row_22 (by decide) ?_
      obtain ⟨x7, h8, h⟩ := bd_s h
      refine cR_S (As := [.int y3, .int 0, .int 15]) (rest := []) (n := 3) (v := .int (b2i x7)) hx hb hml hown hts hK hN hl.1 (c_X5_in l D k y3 0 15 x7 h8) gX5_row_X5_in rfl (by decide +kernel) ⟨⟨rfl, rfl⟩, by decide, by decide⟩ va_P_nil rfl rfl (Nat.le_of_ble_eq_true rfl) dX5_row_24 ⟨Nat.zero_le _, Nat.zero_le _⟩ ?_
      refine lv_if_ne (tgt := 33) hx hb dX5_row_27 (by decide) (fun c9 => ?_) (fun c9 => ?_)
      · have h := if_f h c9
        refine lv_aload_n hx hb dX5_row_33 rfl (lv_at hl 0 rfl) ?_
        refine va_get (D := D) (ci := 5) (v := .ref (a 1)) (C := RX5) (T := TX5) (N := 19) hx hb hts hiRX5 hown hK hP 0 rfl rfl 0 (by decide) hf7 (fun _ h9 => h9) rfl dX5_row_34 ?_
        refine lv_iload_n hx hb dX5_row_37 rfl (lv_at hl 1 rfl) ?_
        refine lv_iload_n hx hb dX5_row_38 rfl (lv_at hl 2 rfl) ?_
        obtain ⟨c10, h⟩ := gd_s h
        refine va_iast (D := D) hx hb hK hP hD hS 1 0 rfl rfl (ix_in c10) dX5_row_39 (fun H locs hP hD hS => ?_)
        have hP : va_P D vwCl (modelW k a ((upd M.1 (y1 : Int32).toNatClampNeg y2), M.2)) H := hP
        have hD : va_D A0 (modelW k a ((upd M.1 (y1 : Int32).toNatClampNeg y2), M.2)) := hD
        refine lv_aload_n hx hb dX5_row_40 rfl (lv_at hl 0 rfl) ?_
        refine va_get (D := D) (ci := 5) (v := .ref (a 2)) (C := RX5) (T := TX5) (N := 19) hx hb hts hiRX5 hown hK hP 0 rfl rfl 1 (by decide) hf13 (fun _ h9 => h9) rfl dX5_row_41 ?_
        refine lv_iload_n hx hb dX5_row_44 rfl (lv_at hl 1 rfl) ?_
        refine lv_iload_n hx hb dX5_row_45 rfl (lv_at hl 3 rfl) ?_
        obtain ⟨c11, h⟩ := gd_s h
        refine va_iast (D := D) hx hb hK hP hD hS 2 0 rfl rfl (ix_in c11) dX5_row_46 (fun H locs hP hD hS => ?_)
        have hP : va_P D vwCl (modelW k a ((upd M.1 (y1 : Int32).toNatClampNeg y2), (upd M.2.1 (y1 : Int32).toNatClampNeg y3), M.2.2)) H := hP
        have hD : va_D A0 (modelW k a ((upd M.1 (y1 : Int32).toNatClampNeg y2), (upd M.2.1 (y1 : Int32).toNatClampNeg y3), M.2.2)) := hD
        refine lv_aload_n hx hb dX5_row_47 rfl (lv_at hl 0 rfl) ?_
        refine lv_iconst (v := 0) hx hb dX5_row_48 (by decide) ?_
        refine va_put (D := D) (ci := 5) (v := .int 0) (ty := .int) (C := RX5) (T := TX5) (N := 19) hx hb hts hiRX5 tyX5 tyX5_ok nmX5 hown hK hP hD hS 0 rfl rfl 9 (by decide) hf61 (fun _ h9 => h9) rfl (by decide +kernel) rfl rfl (Nat.le_of_ble_eq_true rfl) dX5_row_49 (fun H locs hP hD hS => ?_)
        have hP : va_P D vwCl (modelW k a ((upd M.1 (y1 : Int32).toNatClampNeg y2), (upd M.2.1 (y1 : Int32).toNatClampNeg y3), M.2.2.1, M.2.2.2.1, M.2.2.2.2.1, M.2.2.2.2.2.1, M.2.2.2.2.2.2.1, M.2.2.2.2.2.2.2.1, M.2.2.2.2.2.2.2.2.1, 0, M.2.2.2.2.2.2.2.2.2.2)) H := hP
        have hD : va_D A0 (modelW k a ((upd M.1 (y1 : Int32).toNatClampNeg y2), (upd M.2.1 (y1 : Int32).toNatClampNeg y3), M.2.2.1, M.2.2.2.1, M.2.2.2.2.1, M.2.2.2.2.2.1, M.2.2.2.2.2.2.1, M.2.2.2.2.2.2.2.1, M.2.2.2.2.2.2.2.2.1, 0, M.2.2.2.2.2.2.2.2.2.2)) := hD
        refine lv_aload_n hx hb dX5_row_52 rfl (lv_at hl 0 rfl) ?_
        obtain ⟨x12, h13, h⟩ := bd_s h
        refine cR_V (As := []) (rest := []) (n := 0) (v := .int x12) hx hb hml hown hts hK hN hl.1 (c_X5_plots l D k a ((upd M.1 (y1 : Int32).toNatClampNeg y2), (upd M.2.1 (y1 : Int32).toNatClampNeg y3), M.2.2.1, M.2.2.2.1, M.2.2.2.2.1, M.2.2.2.2.2.1, M.2.2.2.2.2.2.1, M.2.2.2.2.2.2.2.1, M.2.2.2.2.2.2.2.2.1, 0, M.2.2.2.2.2.2.2.2.2.2) x12 h13) gX5_row_X5_plots rfl (by decide +kernel) ⟨⟨rfl, rfl⟩, by decide, by decide⟩ hP 0 5 rfl rfl rfl rfl rfl (Nat.le_of_ble_eq_true rfl) dX5_row_53 ⟨Nat.zero_le _, Nat.zero_le _⟩ ?_
        obtain rfl := Option.some.inj h
        exact hQ _ _ _ _ dX5_row_56 hP hS
      · have h := if_t h c9
        refine lv_bipush (v := (-2)) hx hb dX5_row_30 (by decide) ?_
        obtain rfl := Option.some.inj h
        exact hQ _ _ _ _ dX5_row_32 hP hS

abbrev rm_X5_gauge : Room := { frames := 2, cells := 0, slots := 0, locals := 43 }
def f_X5_gauge_L67 (z : Int32 × ModelV) : Option ((Int32 × ModelV) ⊕ (ModelV)) := if 64 ≤ z.1 then (some (.inr z.2)) else (gd (ix ((64 * (z.2).2.2.1) + z.1) 512) (gd (ix ((64 * (z.2).2.2.1) + z.1) 512) (some (.inl ((z.1 + 1), ((z.2).1, (z.2).2.1, (z.2).2.2.1, (z.2).2.2.2.1, (z.2).2.2.2.2.1, (z.2).2.2.2.2.2.1, (upd ((z.2).2.2.2.2.2.2.1) (((64 * (z.2).2.2.1) + z.1) : Int32).toNatClampNeg (vp_nar .boolean 0)), (upd ((z.2).2.2.2.2.2.2.2.1) (((64 * (z.2).2.2.1) + z.1) : Int32).toNatClampNeg (-6)), (z.2).2.2.2.2.2.2.2.2))))))
def f_X5_gauge (M : ModelV) (y1 : Int32) (y2 : Int32) : Option (Int32 × ModelV) := (f_X5_isPlace y1 y2).bind (fun x1 => if (b2i x1) = 0 then (some ((-2), M)) else ((f_X5_gaugeAt M y1 y2).bind (fun x4 => if x4 < 0 then (if M.2.2.1 = 8 then (some ((-4), M)) else (gd (ix M.2.2.1 8) (gd (ix M.2.2.1 8) (gd (ix M.2.2.1 8) ((lp (f_X5_gauge_L67) fu (0, (M.1, M.2.1, M.2.2.1, (upd M.2.2.2.1 (M.2.2.1 : Int32).toNatClampNeg y1), (upd M.2.2.2.2.1 (M.2.2.1 : Int32).toNatClampNeg y2), (upd M.2.2.2.2.2.1 (M.2.2.1 : Int32).toNatClampNeg 0), M.2.2.2.2.2.2))).bind (fun x11 => some (((x11.2.2.1 + 1) - 1), (x11.1, x11.2.1, (x11.2.2.1 + 1), x11.2.2.2.1, x11.2.2.2.2.1, x11.2.2.2.2.2.1, x11.2.2.2.2.2.2.1, x11.2.2.2.2.2.2.2.1, x11.2.2.2.2.2.2.2.2.1, 0, x11.2.2.2.2.2.2.2.2.2.2)))))))) else (some ((-5), M)))))
set_option maxHeartbeats 4000000 in
set_option maxRecDepth 100000 in
theorem c_X5_gauge (l : Launch) (D : va_G) (k : Nat → ClassId) (a : Nat → Nat) (M : ModelV) (y1 : Int32) (y2 : Int32) (r : Int32 × ModelV) (h : f_X5_gauge M y1 y2 = some r) : Met l yX5_gauge wsX5_gauge rm_X5_gauge (va_Pc [.ref (a 0), .int y1, .int y2] (MB D k (modelW k a M))) (QM D (modelW k a M) (modelW k a r.2) (some (.int r.1))) 0 0 (AD (modelW k a M)) := by
  refine met_Mi (by decide) rfl (Nat.le_of_ble_eq_true rfl) ?_
  intro p e s m below meth c Q args ls hx hb hml hown hts hP hK hN hD hl hQ
  have hl : lv_has ls 4 [(0, .ref (a 0)), (1, .int y1), (2, .int y2)] := hl
  have hown : s.vm.findClass RX5 = some m.cls := hown
  unfold f_X5_gauge at h
  have hiRX5 : ∀ w ∈ u_ws RX5 TX5 19, w ∈ wsX5_gauge := by decide +kernel
  have hf53 := hts (.fieldLink RX5 53 "RainCellsModel" "many" "I") (by decide +kernel)
  have hf16 := hts (.fieldLink RX5 16 "RainCellsModel" "px" "[I") (by decide +kernel)
  have hf19 := hts (.fieldLink RX5 19 "RainCellsModel" "py" "[I") (by decide +kernel)
  have hf22 := hts (.fieldLink RX5 22 "RainCellsModel" "reach" "[I") (by decide +kernel)
  have hf25 := hts (.fieldLink RX5 25 "RainCellsModel" "isOut" "[Z") (by decide +kernel)
  have hf29 := hts (.fieldLink RX5 29 "RainCellsModel" "readings" "[I") (by decide +kernel)
  have hf61 := hts (.fieldLink RX5 61 "RainCellsModel" "kept" "I") (by decide +kernel)
  generalize AD (modelW k a M) = A0 at hD hQ
  have hS : va_S A0 s.heap s.heap [] := va_S.rf
  refine lv_iload_n hx hb dX5_gauge_0 rfl (lv_at hl 1 rfl) ?_
  refine lv_iload_n hx hb dX5_gauge_1 rfl (lv_at hl 2 rfl) ?_
  obtain ⟨x1, h2, h⟩ := bd_s h
  refine cR_S (As := [.int y1, .int y2]) (rest := []) (n := 2) (v := .int (b2i x1)) hx hb hml hown hts hK hN hl.1 (c_X5_isPlace l D k y1 y2 x1 h2) gX5_gauge_X5_isPlace rfl (by decide +kernel) ⟨⟨rfl, rfl⟩, by decide, by decide⟩ va_P_nil rfl rfl (Nat.le_of_ble_eq_true rfl) dX5_gauge_2 ⟨Nat.zero_le _, Nat.zero_le _⟩ ?_
  refine lv_if_ne (tgt := 11) hx hb dX5_gauge_5 (by decide) (fun c3 => ?_) (fun c3 => ?_)
  · have h := if_f h c3
    refine lv_aload_n hx hb dX5_gauge_11 rfl (lv_at hl 0 rfl) ?_
    refine lv_iload_n hx hb dX5_gauge_12 rfl (lv_at hl 1 rfl) ?_
    refine lv_iload_n hx hb dX5_gauge_13 rfl (lv_at hl 2 rfl) ?_
    obtain ⟨x4, h5, h⟩ := bd_s h
    refine cR_V (As := [.int y1, .int y2]) (rest := []) (n := 2) (v := .int x4) hx hb hml hown hts hK hN hl.1 (c_X5_gaugeAt l D k a M y1 y2 x4 h5) gX5_gauge_X5_gaugeAt rfl (by decide +kernel) ⟨⟨rfl, rfl⟩, by decide, by decide⟩ hP 0 5 rfl rfl rfl rfl rfl (Nat.le_of_ble_eq_true rfl) dX5_gauge_14 ⟨Nat.zero_le _, Nat.zero_le _⟩ ?_
    refine lv_if_lt (tgt := 23) hx hb dX5_gauge_17 (by decide) (fun c6 => ?_) (fun c6 => ?_)
    · have h := if_t h c6
      refine lv_aload_n hx hb dX5_gauge_23 rfl (lv_at hl 0 rfl) ?_
      refine va_get (D := D) (ci := 5) (v := .int M.2.2.1) (C := RX5) (T := TX5) (N := 19) hx hb hts hiRX5 hown hK hP 0 rfl rfl 2 (by decide) hf53 (fun _ h9 => h9) rfl dX5_gauge_24 ?_
      refine lv_bipush (v := 8) hx hb dX5_gauge_27 (by decide) ?_
      refine lv_icmp_ne (tgt := 35) hx hb dX5_gauge_29 (by decide) (fun c7 => ?_) (fun c7 => ?_)
      · have h := if_f h c7
        refine lv_aload_n hx hb dX5_gauge_35 rfl (lv_at hl 0 rfl) ?_
        refine va_get (D := D) (ci := 5) (v := .ref (a 3)) (C := RX5) (T := TX5) (N := 19) hx hb hts hiRX5 hown hK hP 0 rfl rfl 3 (by decide) hf16 (fun _ h9 => h9) rfl dX5_gauge_36 ?_
        refine lv_aload_n hx hb dX5_gauge_39 rfl (lv_at hl 0 rfl) ?_
        refine va_get (D := D) (ci := 5) (v := .int M.2.2.1) (C := RX5) (T := TX5) (N := 19) hx hb hts hiRX5 hown hK hP 0 rfl rfl 2 (by decide) hf53 (fun _ h9 => h9) rfl dX5_gauge_40 ?_
        refine lv_iload_n hx hb dX5_gauge_43 rfl (lv_at hl 1 rfl) ?_
        obtain ⟨c8, h⟩ := gd_s h
        refine va_iast (D := D) hx hb hK hP hD hS 3 0 rfl rfl (ix_in c8) dX5_gauge_44 (fun H locs hP hD hS => ?_)
        have hP : va_P D vwCl (modelW k a (M.1, M.2.1, M.2.2.1, (upd M.2.2.2.1 (M.2.2.1 : Int32).toNatClampNeg y1), M.2.2.2.2)) H := hP
        have hD : va_D A0 (modelW k a (M.1, M.2.1, M.2.2.1, (upd M.2.2.2.1 (M.2.2.1 : Int32).toNatClampNeg y1), M.2.2.2.2)) := hD
        refine lv_aload_n hx hb dX5_gauge_45 rfl (lv_at hl 0 rfl) ?_
        refine va_get (D := D) (ci := 5) (v := .ref (a 4)) (C := RX5) (T := TX5) (N := 19) hx hb hts hiRX5 hown hK hP 0 rfl rfl 4 (by decide) hf19 (fun _ h9 => h9) rfl dX5_gauge_46 ?_
        refine lv_aload_n hx hb dX5_gauge_49 rfl (lv_at hl 0 rfl) ?_
        refine va_get (D := D) (ci := 5) (v := .int M.2.2.1) (C := RX5) (T := TX5) (N := 19) hx hb hts hiRX5 hown hK hP 0 rfl rfl 2 (by decide) hf53 (fun _ h9 => h9) rfl dX5_gauge_50 ?_
        refine lv_iload_n hx hb dX5_gauge_53 rfl (lv_at hl 2 rfl) ?_
        obtain ⟨c9, h⟩ := gd_s h
        refine va_iast (D := D) hx hb hK hP hD hS 4 0 rfl rfl (ix_in c9) dX5_gauge_54 (fun H locs hP hD hS => ?_)
        have hP : va_P D vwCl (modelW k a (M.1, M.2.1, M.2.2.1, (upd M.2.2.2.1 (M.2.2.1 : Int32).toNatClampNeg y1), (upd M.2.2.2.2.1 (M.2.2.1 : Int32).toNatClampNeg y2), M.2.2.2.2.2)) H := hP
        have hD : va_D A0 (modelW k a (M.1, M.2.1, M.2.2.1, (upd M.2.2.2.1 (M.2.2.1 : Int32).toNatClampNeg y1), (upd M.2.2.2.2.1 (M.2.2.1 : Int32).toNatClampNeg y2), M.2.2.2.2.2)) := hD
        refine lv_aload_n hx hb dX5_gauge_55 rfl (lv_at hl 0 rfl) ?_
        refine va_get (D := D) (ci := 5) (v := .ref (a 5)) (C := RX5) (T := TX5) (N := 19) hx hb hts hiRX5 hown hK hP 0 rfl rfl 5 (by decide) hf22 (fun _ h9 => h9) rfl dX5_gauge_56 ?_
        refine lv_aload_n hx hb dX5_gauge_59 rfl (lv_at hl 0 rfl) ?_
        refine va_get (D := D) (ci := 5) (v := .int M.2.2.1) (C := RX5) (T := TX5) (N := 19) hx hb hts hiRX5 hown hK hP 0 rfl rfl 2 (by decide) hf53 (fun _ h9 => h9) rfl dX5_gauge_60 ?_
        refine lv_iconst (v := 0) hx hb dX5_gauge_63 (by decide) ?_
        obtain ⟨c10, h⟩ := gd_s h
        refine va_iast (D := D) hx hb hK hP hD hS 5 0 rfl rfl (ix_in c10) dX5_gauge_64 (fun H locs hP hD hS => ?_)
        have hP : va_P D vwCl (modelW k a (M.1, M.2.1, M.2.2.1, (upd M.2.2.2.1 (M.2.2.1 : Int32).toNatClampNeg y1), (upd M.2.2.2.2.1 (M.2.2.1 : Int32).toNatClampNeg y2), (upd M.2.2.2.2.2.1 (M.2.2.1 : Int32).toNatClampNeg 0), M.2.2.2.2.2.2)) H := hP
        have hD : va_D A0 (modelW k a (M.1, M.2.1, M.2.2.1, (upd M.2.2.2.1 (M.2.2.1 : Int32).toNatClampNeg y1), (upd M.2.2.2.2.1 (M.2.2.1 : Int32).toNatClampNeg y2), (upd M.2.2.2.2.2.1 (M.2.2.1 : Int32).toNatClampNeg 0), M.2.2.2.2.2.2)) := hD
        refine lv_iconst (v := 0) hx hb dX5_gauge_65 (by decide) ?_
        refine lv_istore_n (lv' := [(3, .int 0), (0, .ref (a 0)), (1, .int y1), (2, .int y2)]) hx hb dX5_gauge_66 rfl hl (by decide) rfl (fun ls hl => ?_)
        obtain ⟨x11, h12, h⟩ := bd_s h
        have K21 : ∀ (ls : Array Slot) (H : Heap) (locs : List Loc), lv_has ls 4 [(0, .ref (a 0))] → va_P D vwCl (modelW k a x11) H → va_D A0 (modelW k a x11) → va_S A0 s.heap H locs → W p l e rm_X5_gauge s m args below meth c H locs 0 0 Q (F0 m 110 ls []) := by
          intro ls H locs hl hP hD hS
          refine lv_aload_n hx hb dX5_gauge_110 rfl (lv_at hl 0 rfl) ?_
          refine lv_dup hx hb dX5_gauge_111 rfl ?_
          refine va_get (D := D) (ci := 5) (v := .int x11.2.2.1) (C := RX5) (T := TX5) (N := 19) hx hb hts hiRX5 hown hK hP 0 rfl rfl 2 (by decide) hf53 (fun _ h9 => h9) rfl dX5_gauge_112 ?_
          refine lv_iconst (v := 1) hx hb dX5_gauge_115 (by decide) ?_
          refine lv_iadd hx hb dX5_gauge_116 ?_
          refine va_put (D := D) (ci := 5) (v := .int (x11.2.2.1 + 1)) (ty := .int) (C := RX5) (T := TX5) (N := 19) hx hb hts hiRX5 tyX5 tyX5_ok nmX5 hown hK hP hD hS 0 rfl rfl 2 (by decide) hf53 (fun _ h9 => h9) rfl (by decide +kernel) rfl rfl (Nat.le_of_ble_eq_true rfl) dX5_gauge_117 (fun H locs hP hD hS => ?_)
          have hP : va_P D vwCl (modelW k a (x11.1, x11.2.1, (x11.2.2.1 + 1), x11.2.2.2)) H := hP
          have hD : va_D A0 (modelW k a (x11.1, x11.2.1, (x11.2.2.1 + 1), x11.2.2.2)) := hD
          refine lv_aload_n hx hb dX5_gauge_120 rfl (lv_at hl 0 rfl) ?_
          refine lv_iconst (v := 0) hx hb dX5_gauge_121 (by decide) ?_
          refine va_put (D := D) (ci := 5) (v := .int 0) (ty := .int) (C := RX5) (T := TX5) (N := 19) hx hb hts hiRX5 tyX5 tyX5_ok nmX5 hown hK hP hD hS 0 rfl rfl 9 (by decide) hf61 (fun _ h9 => h9) rfl (by decide +kernel) rfl rfl (Nat.le_of_ble_eq_true rfl) dX5_gauge_122 (fun H locs hP hD hS => ?_)
          have hP : va_P D vwCl (modelW k a (x11.1, x11.2.1, (x11.2.2.1 + 1), x11.2.2.2.1, x11.2.2.2.2.1, x11.2.2.2.2.2.1, x11.2.2.2.2.2.2.1, x11.2.2.2.2.2.2.2.1, x11.2.2.2.2.2.2.2.2.1, 0, x11.2.2.2.2.2.2.2.2.2.2)) H := hP
          have hD : va_D A0 (modelW k a (x11.1, x11.2.1, (x11.2.2.1 + 1), x11.2.2.2.1, x11.2.2.2.2.1, x11.2.2.2.2.2.1, x11.2.2.2.2.2.2.1, x11.2.2.2.2.2.2.2.1, x11.2.2.2.2.2.2.2.2.1, 0, x11.2.2.2.2.2.2.2.2.2.2)) := hD
          refine lv_aload_n hx hb dX5_gauge_125 rfl (lv_at hl 0 rfl) ?_
          refine va_get (D := D) (ci := 5) (v := .int (x11.2.2.1 + 1)) (C := RX5) (T := TX5) (N := 19) hx hb hts hiRX5 hown hK hP 0 rfl rfl 2 (by decide) hf53 (fun _ h9 => h9) rfl dX5_gauge_126 ?_
          refine lv_iconst (v := 1) hx hb dX5_gauge_129 (by decide) ?_
          refine lv_isub hx hb dX5_gauge_130 ?_
          obtain rfl := Option.some.inj h
          exact hQ _ _ _ _ dX5_gauge_131 hP hS
        refine lp_W (P := fun z13 => ∀ (ls : Array Slot) (H : Heap) (locs : List Loc), lv_has ls 4 [(0, .ref (a 0)), (3, .int z13.1)] → va_P D vwCl (modelW k a z13.2) H → va_D A0 (modelW k a z13.2) → va_S A0 s.heap H locs → W p l e rm_X5_gauge s m args below meth c H locs 0 0 Q (F0 m 67 ls [])) (E := fun x11 => ∀ (ls : Array Slot) (H : Heap) (locs : List Loc), lv_has ls 4 [(0, .ref (a 0))] → va_P D vwCl (modelW k a x11) H → va_D A0 (modelW k a x11) → va_S A0 s.heap H locs → W p l e rm_X5_gauge s m args below meth c H locs 0 0 Q (F0 m 110 ls [])) (fun z13 xx15 hB14 kI16 kE17 => ?_) _ _ _ h12 K21 ls H locs (lv_sub hl [1, 0] rfl) hP hD hS
        intro ls H locs hl hP hD hS
        unfold f_X5_gauge_L67 at hB14
        refine lv_iload_n hx hb dX5_gauge_67 rfl (lv_at hl 1 rfl) ?_
        refine lv_bipush (v := 64) hx hb dX5_gauge_68 (by decide) ?_
        refine lv_icmp_ge (tgt := 110) hx hb dX5_gauge_70 (by decide) (fun c18 => ?_) (fun c18 => ?_)
        · have hB14 := if_t hB14 c18
          exact kE17 _ (Option.some.inj hB14).symm ls H locs (lv_sub hl [0] rfl) hP hD hS
        · have hB14 := if_f hB14 c18
          refine lv_aload_n hx hb dX5_gauge_73 rfl (lv_at hl 0 rfl) ?_
          refine va_get (D := D) (ci := 5) (v := .ref (a 6)) (C := RX5) (T := TX5) (N := 19) hx hb hts hiRX5 hown hK hP 0 rfl rfl 6 (by decide) hf25 (fun _ h9 => h9) rfl dX5_gauge_74 ?_
          refine lv_bipush (v := 64) hx hb dX5_gauge_77 (by decide) ?_
          refine lv_aload_n hx hb dX5_gauge_79 rfl (lv_at hl 0 rfl) ?_
          refine va_get (D := D) (ci := 5) (v := .int ((z13.2).2.2.1)) (C := RX5) (T := TX5) (N := 19) hx hb hts hiRX5 hown hK hP 0 rfl rfl 2 (by decide) hf53 (fun _ h9 => h9) rfl dX5_gauge_80 ?_
          refine lv_imul hx hb dX5_gauge_83 ?_
          refine lv_iload_n hx hb dX5_gauge_84 rfl (lv_at hl 1 rfl) ?_
          refine lv_iadd hx hb dX5_gauge_85 ?_
          refine lv_iconst (v := 0) hx hb dX5_gauge_86 (by decide) ?_
          obtain ⟨c19, hB14⟩ := gd_s hB14
          refine va_zast (D := D) hx hb hK hP hD hS 6 2 rfl rfl (ix_in c19) dX5_gauge_87 (fun H locs hP hD hS => ?_)
          have hP : va_P D vwCl (modelW k a ((z13.2).1, (z13.2).2.1, (z13.2).2.2.1, (z13.2).2.2.2.1, (z13.2).2.2.2.2.1, (z13.2).2.2.2.2.2.1, (upd ((z13.2).2.2.2.2.2.2.1) (((64 * (z13.2).2.2.1) + z13.1) : Int32).toNatClampNeg (vp_nar .boolean 0)), (z13.2).2.2.2.2.2.2.2)) H := hP
          have hD : va_D A0 (modelW k a ((z13.2).1, (z13.2).2.1, (z13.2).2.2.1, (z13.2).2.2.2.1, (z13.2).2.2.2.2.1, (z13.2).2.2.2.2.2.1, (upd ((z13.2).2.2.2.2.2.2.1) (((64 * (z13.2).2.2.1) + z13.1) : Int32).toNatClampNeg (vp_nar .boolean 0)), (z13.2).2.2.2.2.2.2.2)) := hD
          refine lv_aload_n hx hb dX5_gauge_88 rfl (lv_at hl 0 rfl) ?_
          refine va_get (D := D) (ci := 5) (v := .ref (a 7)) (C := RX5) (T := TX5) (N := 19) hx hb hts hiRX5 hown hK hP 0 rfl rfl 7 (by decide) hf29 (fun _ h9 => h9) rfl dX5_gauge_89 ?_
          refine lv_bipush (v := 64) hx hb dX5_gauge_92 (by decide) ?_
          refine lv_aload_n hx hb dX5_gauge_94 rfl (lv_at hl 0 rfl) ?_
          refine va_get (D := D) (ci := 5) (v := .int ((z13.2).2.2.1)) (C := RX5) (T := TX5) (N := 19) hx hb hts hiRX5 hown hK hP 0 rfl rfl 2 (by decide) hf53 (fun _ h9 => h9) rfl dX5_gauge_95 ?_
          refine lv_imul hx hb dX5_gauge_98 ?_
          refine lv_iload_n hx hb dX5_gauge_99 rfl (lv_at hl 1 rfl) ?_
          refine lv_iadd hx hb dX5_gauge_100 ?_
          refine lv_bipush (v := (-6)) hx hb dX5_gauge_101 (by decide) ?_
          obtain ⟨c20, hB14⟩ := gd_s hB14
          refine va_iast (D := D) hx hb hK hP hD hS 7 0 rfl rfl (ix_in c20) dX5_gauge_103 (fun H locs hP hD hS => ?_)
          have hP : va_P D vwCl (modelW k a ((z13.2).1, (z13.2).2.1, (z13.2).2.2.1, (z13.2).2.2.2.1, (z13.2).2.2.2.2.1, (z13.2).2.2.2.2.2.1, (upd ((z13.2).2.2.2.2.2.2.1) (((64 * (z13.2).2.2.1) + z13.1) : Int32).toNatClampNeg (vp_nar .boolean 0)), (upd ((z13.2).2.2.2.2.2.2.2.1) (((64 * (z13.2).2.2.1) + z13.1) : Int32).toNatClampNeg (-6)), (z13.2).2.2.2.2.2.2.2.2)) H := hP
          have hD : va_D A0 (modelW k a ((z13.2).1, (z13.2).2.1, (z13.2).2.2.1, (z13.2).2.2.2.1, (z13.2).2.2.2.2.1, (z13.2).2.2.2.2.2.1, (upd ((z13.2).2.2.2.2.2.2.1) (((64 * (z13.2).2.2.1) + z13.1) : Int32).toNatClampNeg (vp_nar .boolean 0)), (upd ((z13.2).2.2.2.2.2.2.2.1) (((64 * (z13.2).2.2.1) + z13.1) : Int32).toNatClampNeg (-6)), (z13.2).2.2.2.2.2.2.2.2)) := hD
          refine lv_iinc (v := (z13.1 + 1)) (lv' := [(3, .int (z13.1 + 1)), (0, .ref (a 0))]) hx hb dX5_gauge_104 hl (k := 1) rfl rfl (by decide) rfl (fun ls hl => ?_)
          refine lv_goto (tgt := 67) hx hb dX5_gauge_107 (by decide) ?_
          exact kI16 _ (Option.some.inj hB14).symm ls H locs (lv_sub hl [1, 0] rfl) hP hD hS
      · have h := if_t h c7
        refine lv_bipush (v := (-4)) hx hb dX5_gauge_32 (by decide) ?_
        obtain rfl := Option.some.inj h
        exact hQ _ _ _ _ dX5_gauge_34 hP hS
    · have h := if_f h c6
      refine lv_bipush (v := (-5)) hx hb dX5_gauge_20 (by decide) ?_
      obtain rfl := Option.some.inj h
      exact hQ _ _ _ _ dX5_gauge_22 hP hS
  · have h := if_t h c3
    refine lv_bipush (v := (-2)) hx hb dX5_gauge_8 (by decide) ?_
    obtain rfl := Option.some.inj h
    exact hQ _ _ _ _ dX5_gauge_10 hP hS

abbrev rm_X5_move : Room := { frames := 2, cells := 0, slots := 0, locals := 43 }
def f_X5_move (M : ModelV) (y1 : Int32) (y2 : Int32) (y3 : Int32) : Option (Int32 × ModelV) := (f_X5_isGauge M y1).bind (fun x1 => if (b2i x1) = 0 then (some ((-1), M)) else ((f_X5_isPlace y2 y3).bind (fun x4 => if (b2i x4) = 0 then (some ((-2), M)) else ((f_X5_gaugeAt M y2 y3).bind (fun x7 => if x7 < 0 then (gd (ix y1 8) ((f_X5_square (y2 - (M.2.2.2.1 (y1 : Int32).toNatClampNeg))).bind (fun x11 => gd (ix y1 8) ((f_X5_square (y3 - (M.2.2.2.2.1 (y1 : Int32).toNatClampNeg))).bind (fun x14 => gd (ix y1 8) (gd (ix y1 8) (some ((x11 + x14), (M.1, M.2.1, M.2.2.1, (upd M.2.2.2.1 (y1 : Int32).toNatClampNeg y2), (upd M.2.2.2.2.1 (y1 : Int32).toNatClampNeg y3), M.2.2.2.2.2.1, M.2.2.2.2.2.2.1, M.2.2.2.2.2.2.2.1, M.2.2.2.2.2.2.2.2.1, 0, M.2.2.2.2.2.2.2.2.2.2))))))))) else (if x7 = y1 then (gd (ix y1 8) ((f_X5_square (y2 - (M.2.2.2.1 (y1 : Int32).toNatClampNeg))).bind (fun x20 => gd (ix y1 8) ((f_X5_square (y3 - (M.2.2.2.2.1 (y1 : Int32).toNatClampNeg))).bind (fun x23 => gd (ix y1 8) (gd (ix y1 8) (some ((x20 + x23), (M.1, M.2.1, M.2.2.1, (upd M.2.2.2.1 (y1 : Int32).toNatClampNeg y2), (upd M.2.2.2.2.1 (y1 : Int32).toNatClampNeg y3), M.2.2.2.2.2.1, M.2.2.2.2.2.2.1, M.2.2.2.2.2.2.2.1, M.2.2.2.2.2.2.2.2.1, 0, M.2.2.2.2.2.2.2.2.2.2))))))))) else (some ((-5), M))))))))
set_option maxHeartbeats 4000000 in
set_option maxRecDepth 100000 in
theorem c_X5_move (l : Launch) (D : va_G) (k : Nat → ClassId) (a : Nat → Nat) (M : ModelV) (y1 : Int32) (y2 : Int32) (y3 : Int32) (r : Int32 × ModelV) (h : f_X5_move M y1 y2 y3 = some r) : Met l yX5_move wsX5_move rm_X5_move (va_Pc [.ref (a 0), .int y1, .int y2, .int y3] (MB D k (modelW k a M))) (QM D (modelW k a M) (modelW k a r.2) (some (.int r.1))) 0 0 (AD (modelW k a M)) := by
  refine met_Mi (by decide) rfl (Nat.le_of_ble_eq_true rfl) ?_
  intro p e s m below meth c Q args ls hx hb hml hown hts hP hK hN hD hl hQ
  have hl : lv_has ls 6 [(0, .ref (a 0)), (1, .int y1), (2, .int y2), (3, .int y3)] := hl
  have hown : s.vm.findClass RX5 = some m.cls := hown
  unfold f_X5_move at h
  have hiRX5 : ∀ w ∈ u_ws RX5 TX5 19, w ∈ wsX5_move := by decide +kernel
  have hf16 := hts (.fieldLink RX5 16 "RainCellsModel" "px" "[I") (by decide +kernel)
  have hf19 := hts (.fieldLink RX5 19 "RainCellsModel" "py" "[I") (by decide +kernel)
  have hf61 := hts (.fieldLink RX5 61 "RainCellsModel" "kept" "I") (by decide +kernel)
  generalize AD (modelW k a M) = A0 at hD hQ
  have hS : va_S A0 s.heap s.heap [] := va_S.rf
  refine lv_aload_n hx hb dX5_move_0 rfl (lv_at hl 0 rfl) ?_
  refine lv_iload_n hx hb dX5_move_1 rfl (lv_at hl 1 rfl) ?_
  obtain ⟨x1, h2, h⟩ := bd_s h
  refine cR_V (As := [.int y1]) (rest := []) (n := 1) (v := .int (b2i x1)) hx hb hml hown hts hK hN hl.1 (c_X5_isGauge l D k a M y1 x1 h2) gX5_move_X5_isGauge rfl (by decide +kernel) ⟨⟨rfl, rfl⟩, by decide, by decide⟩ hP 0 5 rfl rfl rfl rfl rfl (Nat.le_of_ble_eq_true rfl) dX5_move_2 ⟨Nat.zero_le _, Nat.zero_le _⟩ ?_
  refine lv_if_ne (tgt := 10) hx hb dX5_move_5 (by decide) (fun c3 => ?_) (fun c3 => ?_)
  · have h := if_f h c3
    refine lv_iload_n hx hb dX5_move_10 rfl (lv_at hl 2 rfl) ?_
    refine lv_iload_n hx hb dX5_move_11 rfl (lv_at hl 3 rfl) ?_
    obtain ⟨x4, h5, h⟩ := bd_s h
    refine cR_S (As := [.int y2, .int y3]) (rest := []) (n := 2) (v := .int (b2i x4)) hx hb hml hown hts hK hN hl.1 (c_X5_isPlace l D k y2 y3 x4 h5) gX5_move_X5_isPlace rfl (by decide +kernel) ⟨⟨rfl, rfl⟩, by decide, by decide⟩ va_P_nil rfl rfl (Nat.le_of_ble_eq_true rfl) dX5_move_12 ⟨Nat.zero_le _, Nat.zero_le _⟩ ?_
    refine lv_if_ne (tgt := 21) hx hb dX5_move_15 (by decide) (fun c6 => ?_) (fun c6 => ?_)
    · have h := if_f h c6
      refine lv_aload_n hx hb dX5_move_21 rfl (lv_at hl 0 rfl) ?_
      refine lv_iload_n hx hb dX5_move_22 rfl (lv_at hl 2 rfl) ?_
      refine lv_iload_n hx hb dX5_move_23 rfl (lv_at hl 3 rfl) ?_
      obtain ⟨x7, h8, h⟩ := bd_s h
      refine cR_V (As := [.int y2, .int y3]) (rest := []) (n := 2) (v := .int x7) hx hb hml hown hts hK hN hl.1 (c_X5_gaugeAt l D k a M y2 y3 x7 h8) gX5_move_X5_gaugeAt rfl (by decide +kernel) ⟨⟨rfl, rfl⟩, by decide, by decide⟩ hP 0 5 rfl rfl rfl rfl rfl (Nat.le_of_ble_eq_true rfl) dX5_move_24 ⟨Nat.zero_le _, Nat.zero_le _⟩ ?_
      refine lv_istore (lv' := [(4, .int x7), (0, .ref (a 0)), (1, .int y1), (2, .int y2), (3, .int y3)]) hx hb dX5_move_27 hl (by decide) rfl (fun ls hl => ?_)
      refine lv_iload hx hb dX5_move_29 (lv_at hl 0 rfl) ?_
      refine lv_if_lt (tgt := 43) hx hb dX5_move_31 (by decide) (fun c9 => ?_) (fun c9 => ?_)
      · have h := if_t h c9
        refine lv_iload_n hx hb dX5_move_43 rfl (lv_at hl 3 rfl) ?_
        refine lv_aload_n hx hb dX5_move_44 rfl (lv_at hl 1 rfl) ?_
        refine va_get (D := D) (ci := 5) (v := .ref (a 3)) (C := RX5) (T := TX5) (N := 19) hx hb hts hiRX5 hown hK hP 0 rfl rfl 3 (by decide) hf16 (fun _ h9 => h9) rfl dX5_move_45 ?_
        refine lv_iload_n hx hb dX5_move_48 rfl (lv_at hl 2 rfl) ?_
        obtain ⟨c10, h⟩ := gd_s h
        refine va_iald (D := D) hx hb hK hP 3 0 rfl rfl (ix_in c10) dX5_move_49 ?_
        refine lv_isub hx hb dX5_move_50 ?_
        obtain ⟨x11, h12, h⟩ := bd_s h
        refine cR_S (As := [.int (y2 - (M.2.2.2.1 (y1 : Int32).toNatClampNeg))]) (rest := []) (n := 1) (v := .int x11) hx hb hml hown hts hK hN hl.1 (c_X5_square l D k (y2 - (M.2.2.2.1 (y1 : Int32).toNatClampNeg)) x11 h12) gX5_move_X5_square rfl (by decide +kernel) ⟨⟨rfl, rfl⟩, by decide, by decide⟩ va_P_nil rfl rfl (Nat.le_of_ble_eq_true rfl) dX5_move_51 ⟨Nat.zero_le _, Nat.zero_le _⟩ ?_
        refine lv_iload_n hx hb dX5_move_54 rfl (lv_at hl 4 rfl) ?_
        refine lv_aload_n hx hb dX5_move_55 rfl (lv_at hl 1 rfl) ?_
        refine va_get (D := D) (ci := 5) (v := .ref (a 4)) (C := RX5) (T := TX5) (N := 19) hx hb hts hiRX5 hown hK hP 0 rfl rfl 4 (by decide) hf19 (fun _ h9 => h9) rfl dX5_move_56 ?_
        refine lv_iload_n hx hb dX5_move_59 rfl (lv_at hl 2 rfl) ?_
        obtain ⟨c13, h⟩ := gd_s h
        refine va_iald (D := D) hx hb hK hP 4 0 rfl rfl (ix_in c13) dX5_move_60 ?_
        refine lv_isub hx hb dX5_move_61 ?_
        obtain ⟨x14, h15, h⟩ := bd_s h
        refine cR_S (As := [.int (y3 - (M.2.2.2.2.1 (y1 : Int32).toNatClampNeg))]) (rest := [.int x11]) (n := 1) (v := .int x14) hx hb hml hown hts hK hN hl.1 (c_X5_square l D k (y3 - (M.2.2.2.2.1 (y1 : Int32).toNatClampNeg)) x14 h15) gX5_move_X5_square rfl (by decide +kernel) ⟨⟨rfl, rfl⟩, by decide, by decide⟩ va_P_nil rfl rfl (Nat.le_of_ble_eq_true rfl) dX5_move_62 ⟨Nat.zero_le _, Nat.zero_le _⟩ ?_
        refine lv_iadd hx hb dX5_move_65 ?_
        refine lv_istore (lv' := [(5, .int (x11 + x14)), (4, .int x7), (0, .ref (a 0)), (1, .int y1), (2, .int y2), (3, .int y3)]) hx hb dX5_move_66 hl (by decide) rfl (fun ls hl => ?_)
        refine lv_aload_n hx hb dX5_move_68 rfl (lv_at hl 2 rfl) ?_
        refine va_get (D := D) (ci := 5) (v := .ref (a 3)) (C := RX5) (T := TX5) (N := 19) hx hb hts hiRX5 hown hK hP 0 rfl rfl 3 (by decide) hf16 (fun _ h9 => h9) rfl dX5_move_69 ?_
        refine lv_iload_n hx hb dX5_move_72 rfl (lv_at hl 3 rfl) ?_
        refine lv_iload_n hx hb dX5_move_73 rfl (lv_at hl 4 rfl) ?_
        obtain ⟨c16, h⟩ := gd_s h
        refine va_iast (D := D) hx hb hK hP hD hS 3 0 rfl rfl (ix_in c16) dX5_move_74 (fun H locs hP hD hS => ?_)
        have hP : va_P D vwCl (modelW k a (M.1, M.2.1, M.2.2.1, (upd M.2.2.2.1 (y1 : Int32).toNatClampNeg y2), M.2.2.2.2)) H := hP
        have hD : va_D A0 (modelW k a (M.1, M.2.1, M.2.2.1, (upd M.2.2.2.1 (y1 : Int32).toNatClampNeg y2), M.2.2.2.2)) := hD
        refine lv_aload_n hx hb dX5_move_75 rfl (lv_at hl 2 rfl) ?_
        refine va_get (D := D) (ci := 5) (v := .ref (a 4)) (C := RX5) (T := TX5) (N := 19) hx hb hts hiRX5 hown hK hP 0 rfl rfl 4 (by decide) hf19 (fun _ h9 => h9) rfl dX5_move_76 ?_
        refine lv_iload_n hx hb dX5_move_79 rfl (lv_at hl 3 rfl) ?_
        refine lv_iload_n hx hb dX5_move_80 rfl (lv_at hl 5 rfl) ?_
        obtain ⟨c17, h⟩ := gd_s h
        refine va_iast (D := D) hx hb hK hP hD hS 4 0 rfl rfl (ix_in c17) dX5_move_81 (fun H locs hP hD hS => ?_)
        have hP : va_P D vwCl (modelW k a (M.1, M.2.1, M.2.2.1, (upd M.2.2.2.1 (y1 : Int32).toNatClampNeg y2), (upd M.2.2.2.2.1 (y1 : Int32).toNatClampNeg y3), M.2.2.2.2.2)) H := hP
        have hD : va_D A0 (modelW k a (M.1, M.2.1, M.2.2.1, (upd M.2.2.2.1 (y1 : Int32).toNatClampNeg y2), (upd M.2.2.2.2.1 (y1 : Int32).toNatClampNeg y3), M.2.2.2.2.2)) := hD
        refine lv_aload_n hx hb dX5_move_82 rfl (lv_at hl 2 rfl) ?_
        refine lv_iconst (v := 0) hx hb dX5_move_83 (by decide) ?_
        refine va_put (D := D) (ci := 5) (v := .int 0) (ty := .int) (C := RX5) (T := TX5) (N := 19) hx hb hts hiRX5 tyX5 tyX5_ok nmX5 hown hK hP hD hS 0 rfl rfl 9 (by decide) hf61 (fun _ h9 => h9) rfl (by decide +kernel) rfl rfl (Nat.le_of_ble_eq_true rfl) dX5_move_84 (fun H locs hP hD hS => ?_)
        have hP : va_P D vwCl (modelW k a (M.1, M.2.1, M.2.2.1, (upd M.2.2.2.1 (y1 : Int32).toNatClampNeg y2), (upd M.2.2.2.2.1 (y1 : Int32).toNatClampNeg y3), M.2.2.2.2.2.1, M.2.2.2.2.2.2.1, M.2.2.2.2.2.2.2.1, M.2.2.2.2.2.2.2.2.1, 0, M.2.2.2.2.2.2.2.2.2.2)) H := hP
        have hD : va_D A0 (modelW k a (M.1, M.2.1, M.2.2.1, (upd M.2.2.2.1 (y1 : Int32).toNatClampNeg y2), (upd M.2.2.2.2.1 (y1 : Int32).toNatClampNeg y3), M.2.2.2.2.2.1, M.2.2.2.2.2.2.1, M.2.2.2.2.2.2.2.1, M.2.2.2.2.2.2.2.2.1, 0, M.2.2.2.2.2.2.2.2.2.2)) := hD
        refine lv_iload hx hb dX5_move_87 (lv_at hl 0 rfl) ?_
        obtain rfl := Option.some.inj h
        exact hQ _ _ _ _ dX5_move_89 hP hS
      · have h := if_f h c9
        refine lv_iload hx hb dX5_move_34 (lv_at hl 0 rfl) ?_
        refine lv_iload_n hx hb dX5_move_36 rfl (lv_at hl 2 rfl) ?_
        refine lv_icmp_eq (tgt := 43) hx hb dX5_move_37 (by decide) (fun c18 => ?_) (fun c18 => ?_)
        · have h := if_t h c18
          refine lv_iload_n hx hb dX5_move_43 rfl (lv_at hl 3 rfl) ?_
          refine lv_aload_n hx hb dX5_move_44 rfl (lv_at hl 1 rfl) ?_
          refine va_get (D := D) (ci := 5) (v := .ref (a 3)) (C := RX5) (T := TX5) (N := 19) hx hb hts hiRX5 hown hK hP 0 rfl rfl 3 (by decide) hf16 (fun _ h9 => h9) rfl dX5_move_45 ?_
          refine lv_iload_n hx hb dX5_move_48 rfl (lv_at hl 2 rfl) ?_
          obtain ⟨c19, h⟩ := gd_s h
          refine va_iald (D := D) hx hb hK hP 3 0 rfl rfl (ix_in c19) dX5_move_49 ?_
          refine lv_isub hx hb dX5_move_50 ?_
          obtain ⟨x20, h21, h⟩ := bd_s h
          refine cR_S (As := [.int (y2 - (M.2.2.2.1 (y1 : Int32).toNatClampNeg))]) (rest := []) (n := 1) (v := .int x20) hx hb hml hown hts hK hN hl.1 (c_X5_square l D k (y2 - (M.2.2.2.1 (y1 : Int32).toNatClampNeg)) x20 h21) gX5_move_X5_square rfl (by decide +kernel) ⟨⟨rfl, rfl⟩, by decide, by decide⟩ va_P_nil rfl rfl (Nat.le_of_ble_eq_true rfl) dX5_move_51 ⟨Nat.zero_le _, Nat.zero_le _⟩ ?_
          refine lv_iload_n hx hb dX5_move_54 rfl (lv_at hl 4 rfl) ?_
          refine lv_aload_n hx hb dX5_move_55 rfl (lv_at hl 1 rfl) ?_
          refine va_get (D := D) (ci := 5) (v := .ref (a 4)) (C := RX5) (T := TX5) (N := 19) hx hb hts hiRX5 hown hK hP 0 rfl rfl 4 (by decide) hf19 (fun _ h9 => h9) rfl dX5_move_56 ?_
          refine lv_iload_n hx hb dX5_move_59 rfl (lv_at hl 2 rfl) ?_
          obtain ⟨c22, h⟩ := gd_s h
          refine va_iald (D := D) hx hb hK hP 4 0 rfl rfl (ix_in c22) dX5_move_60 ?_
          refine lv_isub hx hb dX5_move_61 ?_
          obtain ⟨x23, h24, h⟩ := bd_s h
          refine cR_S (As := [.int (y3 - (M.2.2.2.2.1 (y1 : Int32).toNatClampNeg))]) (rest := [.int x20]) (n := 1) (v := .int x23) hx hb hml hown hts hK hN hl.1 (c_X5_square l D k (y3 - (M.2.2.2.2.1 (y1 : Int32).toNatClampNeg)) x23 h24) gX5_move_X5_square rfl (by decide +kernel) ⟨⟨rfl, rfl⟩, by decide, by decide⟩ va_P_nil rfl rfl (Nat.le_of_ble_eq_true rfl) dX5_move_62 ⟨Nat.zero_le _, Nat.zero_le _⟩ ?_
          refine lv_iadd hx hb dX5_move_65 ?_
          refine lv_istore (lv' := [(5, .int (x20 + x23)), (4, .int x7), (0, .ref (a 0)), (1, .int y1), (2, .int y2), (3, .int y3)]) hx hb dX5_move_66 hl (by decide) rfl (fun ls hl => ?_)
          refine lv_aload_n hx hb dX5_move_68 rfl (lv_at hl 2 rfl) ?_
          refine va_get (D := D) (ci := 5) (v := .ref (a 3)) (C := RX5) (T := TX5) (N := 19) hx hb hts hiRX5 hown hK hP 0 rfl rfl 3 (by decide) hf16 (fun _ h9 => h9) rfl dX5_move_69 ?_
          refine lv_iload_n hx hb dX5_move_72 rfl (lv_at hl 3 rfl) ?_
          refine lv_iload_n hx hb dX5_move_73 rfl (lv_at hl 4 rfl) ?_
          obtain ⟨c25, h⟩ := gd_s h
          refine va_iast (D := D) hx hb hK hP hD hS 3 0 rfl rfl (ix_in c25) dX5_move_74 (fun H locs hP hD hS => ?_)
          have hP : va_P D vwCl (modelW k a (M.1, M.2.1, M.2.2.1, (upd M.2.2.2.1 (y1 : Int32).toNatClampNeg y2), M.2.2.2.2)) H := hP
          have hD : va_D A0 (modelW k a (M.1, M.2.1, M.2.2.1, (upd M.2.2.2.1 (y1 : Int32).toNatClampNeg y2), M.2.2.2.2)) := hD
          refine lv_aload_n hx hb dX5_move_75 rfl (lv_at hl 2 rfl) ?_
          refine va_get (D := D) (ci := 5) (v := .ref (a 4)) (C := RX5) (T := TX5) (N := 19) hx hb hts hiRX5 hown hK hP 0 rfl rfl 4 (by decide) hf19 (fun _ h9 => h9) rfl dX5_move_76 ?_
          refine lv_iload_n hx hb dX5_move_79 rfl (lv_at hl 3 rfl) ?_
          refine lv_iload_n hx hb dX5_move_80 rfl (lv_at hl 5 rfl) ?_
          obtain ⟨c26, h⟩ := gd_s h
          refine va_iast (D := D) hx hb hK hP hD hS 4 0 rfl rfl (ix_in c26) dX5_move_81 (fun H locs hP hD hS => ?_)
          have hP : va_P D vwCl (modelW k a (M.1, M.2.1, M.2.2.1, (upd M.2.2.2.1 (y1 : Int32).toNatClampNeg y2), (upd M.2.2.2.2.1 (y1 : Int32).toNatClampNeg y3), M.2.2.2.2.2)) H := hP
          have hD : va_D A0 (modelW k a (M.1, M.2.1, M.2.2.1, (upd M.2.2.2.1 (y1 : Int32).toNatClampNeg y2), (upd M.2.2.2.2.1 (y1 : Int32).toNatClampNeg y3), M.2.2.2.2.2)) := hD
          refine lv_aload_n hx hb dX5_move_82 rfl (lv_at hl 2 rfl) ?_
          refine lv_iconst (v := 0) hx hb dX5_move_83 (by decide) ?_
          refine va_put (D := D) (ci := 5) (v := .int 0) (ty := .int) (C := RX5) (T := TX5) (N := 19) hx hb hts hiRX5 tyX5 tyX5_ok nmX5 hown hK hP hD hS 0 rfl rfl 9 (by decide) hf61 (fun _ h9 => h9) rfl (by decide +kernel) rfl rfl (Nat.le_of_ble_eq_true rfl) dX5_move_84 (fun H locs hP hD hS => ?_)
          have hP : va_P D vwCl (modelW k a (M.1, M.2.1, M.2.2.1, (upd M.2.2.2.1 (y1 : Int32).toNatClampNeg y2), (upd M.2.2.2.2.1 (y1 : Int32).toNatClampNeg y3), M.2.2.2.2.2.1, M.2.2.2.2.2.2.1, M.2.2.2.2.2.2.2.1, M.2.2.2.2.2.2.2.2.1, 0, M.2.2.2.2.2.2.2.2.2.2)) H := hP
          have hD : va_D A0 (modelW k a (M.1, M.2.1, M.2.2.1, (upd M.2.2.2.1 (y1 : Int32).toNatClampNeg y2), (upd M.2.2.2.2.1 (y1 : Int32).toNatClampNeg y3), M.2.2.2.2.2.1, M.2.2.2.2.2.2.1, M.2.2.2.2.2.2.2.1, M.2.2.2.2.2.2.2.2.1, 0, M.2.2.2.2.2.2.2.2.2.2)) := hD
          refine lv_iload hx hb dX5_move_87 (lv_at hl 0 rfl) ?_
          obtain rfl := Option.some.inj h
          exact hQ _ _ _ _ dX5_move_89 hP hS
        · have h := if_f h c18
          refine lv_bipush (v := (-5)) hx hb dX5_move_40 (by decide) ?_
          obtain rfl := Option.some.inj h
          exact hQ _ _ _ _ dX5_move_42 hP hS
    · have h := if_t h c6
      refine lv_bipush (v := (-2)) hx hb dX5_move_18 (by decide) ?_
      obtain rfl := Option.some.inj h
      exact hQ _ _ _ _ dX5_move_20 hP hS
  · have h := if_t h c3
    refine lv_iconst (v := (-1)) hx hb dX5_move_8 (by decide) ?_
    obtain rfl := Option.some.inj h
    exact hQ _ _ _ _ dX5_move_9 hP hS

abbrev rm_X5_reach : Room := { frames := 2, cells := 0, slots := 0, locals := 43 }
def f_X5_reach (M : ModelV) (y1 : Int32) (y2 : Int32) : Option (Int32 × ModelV) := (f_X5_isGauge M y1).bind (fun x1 => if (b2i x1) = 0 then (some ((-1), M)) else ((f_X5_in y2 (-400) 400).bind (fun x4 => if (b2i x4) = 0 then (some ((-2), M)) else (gd (ix y1 8) (gd (ix y1 8) (some (((M.2.2.2.2.2.1 (y1 : Int32).toNatClampNeg) + 1000), (M.1, M.2.1, M.2.2.1, M.2.2.2.1, M.2.2.2.2.1, (upd M.2.2.2.2.2.1 (y1 : Int32).toNatClampNeg y2), M.2.2.2.2.2.2.1, M.2.2.2.2.2.2.2.1, M.2.2.2.2.2.2.2.2.1, 0, M.2.2.2.2.2.2.2.2.2.2))))))))
set_option maxHeartbeats 4000000 in
set_option maxRecDepth 100000 in
theorem c_X5_reach (l : Launch) (D : va_G) (k : Nat → ClassId) (a : Nat → Nat) (M : ModelV) (y1 : Int32) (y2 : Int32) (r : Int32 × ModelV) (h : f_X5_reach M y1 y2 = some r) : Met l yX5_reach wsX5_reach rm_X5_reach (va_Pc [.ref (a 0), .int y1, .int y2] (MB D k (modelW k a M))) (QM D (modelW k a M) (modelW k a r.2) (some (.int r.1))) 0 0 (AD (modelW k a M)) := by
  refine met_Mi (by decide) rfl (Nat.le_of_ble_eq_true rfl) ?_
  intro p e s m below meth c Q args ls hx hb hml hown hts hP hK hN hD hl hQ
  have hl : lv_has ls 4 [(0, .ref (a 0)), (1, .int y1), (2, .int y2)] := hl
  have hown : s.vm.findClass RX5 = some m.cls := hown
  unfold f_X5_reach at h
  have hiRX5 : ∀ w ∈ u_ws RX5 TX5 19, w ∈ wsX5_reach := by decide +kernel
  have hf22 := hts (.fieldLink RX5 22 "RainCellsModel" "reach" "[I") (by decide +kernel)
  have hf61 := hts (.fieldLink RX5 61 "RainCellsModel" "kept" "I") (by decide +kernel)
  generalize AD (modelW k a M) = A0 at hD hQ
  have hS : va_S A0 s.heap s.heap [] := va_S.rf
  refine lv_aload_n hx hb dX5_reach_0 rfl (lv_at hl 0 rfl) ?_
  refine lv_iload_n hx hb dX5_reach_1 rfl (lv_at hl 1 rfl) ?_
  obtain ⟨x1, h2, h⟩ := bd_s h
  refine cR_V (As := [.int y1]) (rest := []) (n := 1) (v := .int (b2i x1)) hx hb hml hown hts hK hN hl.1 (c_X5_isGauge l D k a M y1 x1 h2) gX5_reach_X5_isGauge rfl (by decide +kernel) ⟨⟨rfl, rfl⟩, by decide, by decide⟩ hP 0 5 rfl rfl rfl rfl rfl (Nat.le_of_ble_eq_true rfl) dX5_reach_2 ⟨Nat.zero_le _, Nat.zero_le _⟩ ?_
  refine lv_if_ne (tgt := 10) hx hb dX5_reach_5 (by decide) (fun c3 => ?_) (fun c3 => ?_)
  · have h := if_f h c3
    refine lv_iload_n hx hb dX5_reach_10 rfl (lv_at hl 2 rfl) ?_
    refine lv_sipush (v := (-400)) hx hb dX5_reach_11 (by decide) ?_
    refine lv_sipush (v := 400) hx hb dX5_reach_14 (by decide) ?_
    obtain ⟨x4, h5, h⟩ := bd_s h
    refine cR_S (As := [.int y2, .int (-400), .int 400]) (rest := []) (n := 3) (v := .int (b2i x4)) hx hb hml hown hts hK hN hl.1 (c_X5_in l D k y2 (-400) 400 x4 h5) gX5_reach_X5_in rfl (by decide +kernel) ⟨⟨rfl, rfl⟩, by decide, by decide⟩ va_P_nil rfl rfl (Nat.le_of_ble_eq_true rfl) dX5_reach_17 ⟨Nat.zero_le _, Nat.zero_le _⟩ ?_
    refine lv_if_ne (tgt := 26) hx hb dX5_reach_20 (by decide) (fun c6 => ?_) (fun c6 => ?_)
    · have h := if_f h c6
      refine lv_aload_n hx hb dX5_reach_26 rfl (lv_at hl 0 rfl) ?_
      refine va_get (D := D) (ci := 5) (v := .ref (a 5)) (C := RX5) (T := TX5) (N := 19) hx hb hts hiRX5 hown hK hP 0 rfl rfl 5 (by decide) hf22 (fun _ h9 => h9) rfl dX5_reach_27 ?_
      refine lv_iload_n hx hb dX5_reach_30 rfl (lv_at hl 1 rfl) ?_
      obtain ⟨c7, h⟩ := gd_s h
      refine va_iald (D := D) hx hb hK hP 5 0 rfl rfl (ix_in c7) dX5_reach_31 ?_
      refine lv_istore_n (lv' := [(3, .int (M.2.2.2.2.2.1 (y1 : Int32).toNatClampNeg)), (0, .ref (a 0)), (1, .int y1), (2, .int y2)]) hx hb dX5_reach_32 rfl hl (by decide) rfl (fun ls hl => ?_)
      refine lv_aload_n hx hb dX5_reach_33 rfl (lv_at hl 1 rfl) ?_
      refine va_get (D := D) (ci := 5) (v := .ref (a 5)) (C := RX5) (T := TX5) (N := 19) hx hb hts hiRX5 hown hK hP 0 rfl rfl 5 (by decide) hf22 (fun _ h9 => h9) rfl dX5_reach_34 ?_
      refine lv_iload_n hx hb dX5_reach_37 rfl (lv_at hl 2 rfl) ?_
      refine lv_iload_n hx hb dX5_reach_38 rfl (lv_at hl 3 rfl) ?_
      obtain ⟨c8, h⟩ := gd_s h
      refine va_iast (D := D) hx hb hK hP hD hS 5 0 rfl rfl (ix_in c8) dX5_reach_39 (fun H locs hP hD hS => ?_)
      have hP : va_P D vwCl (modelW k a (M.1, M.2.1, M.2.2.1, M.2.2.2.1, M.2.2.2.2.1, (upd M.2.2.2.2.2.1 (y1 : Int32).toNatClampNeg y2), M.2.2.2.2.2.2)) H := hP
      have hD : va_D A0 (modelW k a (M.1, M.2.1, M.2.2.1, M.2.2.2.1, M.2.2.2.2.1, (upd M.2.2.2.2.2.1 (y1 : Int32).toNatClampNeg y2), M.2.2.2.2.2.2)) := hD
      refine lv_aload_n hx hb dX5_reach_40 rfl (lv_at hl 1 rfl) ?_
      refine lv_iconst (v := 0) hx hb dX5_reach_41 (by decide) ?_
      refine va_put (D := D) (ci := 5) (v := .int 0) (ty := .int) (C := RX5) (T := TX5) (N := 19) hx hb hts hiRX5 tyX5 tyX5_ok nmX5 hown hK hP hD hS 0 rfl rfl 9 (by decide) hf61 (fun _ h9 => h9) rfl (by decide +kernel) rfl rfl (Nat.le_of_ble_eq_true rfl) dX5_reach_42 (fun H locs hP hD hS => ?_)
      have hP : va_P D vwCl (modelW k a (M.1, M.2.1, M.2.2.1, M.2.2.2.1, M.2.2.2.2.1, (upd M.2.2.2.2.2.1 (y1 : Int32).toNatClampNeg y2), M.2.2.2.2.2.2.1, M.2.2.2.2.2.2.2.1, M.2.2.2.2.2.2.2.2.1, 0, M.2.2.2.2.2.2.2.2.2.2)) H := hP
      have hD : va_D A0 (modelW k a (M.1, M.2.1, M.2.2.1, M.2.2.2.1, M.2.2.2.2.1, (upd M.2.2.2.2.2.1 (y1 : Int32).toNatClampNeg y2), M.2.2.2.2.2.2.1, M.2.2.2.2.2.2.2.1, M.2.2.2.2.2.2.2.2.1, 0, M.2.2.2.2.2.2.2.2.2.2)) := hD
      refine lv_iload_n hx hb dX5_reach_45 rfl (lv_at hl 0 rfl) ?_
      refine lv_sipush (v := 1000) hx hb dX5_reach_46 (by decide) ?_
      refine lv_iadd hx hb dX5_reach_49 ?_
      obtain rfl := Option.some.inj h
      exact hQ _ _ _ _ dX5_reach_50 hP hS
    · have h := if_t h c6
      refine lv_bipush (v := (-2)) hx hb dX5_reach_23 (by decide) ?_
      obtain rfl := Option.some.inj h
      exact hQ _ _ _ _ dX5_reach_25 hP hS
  · have h := if_t h c3
    refine lv_iconst (v := (-1)) hx hb dX5_reach_8 (by decide) ?_
    obtain rfl := Option.some.inj h
    exact hQ _ _ _ _ dX5_reach_9 hP hS

abbrev rm_X5_fail : Room := { frames := 2, cells := 0, slots := 0, locals := 43 }
def f_X5_fail_L45 (y1 : Int32) (y3 : Int32) (y4 : Int32) (z : Int32 × ModelV) : Option ((Int32 × ModelV) ⊕ (ModelV)) := if y3 < z.1 then (some (.inr z.2)) else ((if y4 = 1 then (some 1) else (some 0) : Option (Int32)).bind (fun x15 => gd (ix ((64 * y1) + z.1) 512) (some (.inl ((z.1 + 1), ((z.2).1, (z.2).2.1, (z.2).2.2.1, (z.2).2.2.2.1, (z.2).2.2.2.2.1, (z.2).2.2.2.2.2.1, (upd ((z.2).2.2.2.2.2.2.1) (((64 * y1) + z.1) : Int32).toNatClampNeg (vp_nar .boolean x15)), (z.2).2.2.2.2.2.2.2))))))
def f_X5_fail (M : ModelV) (y1 : Int32) (y2 : Int32) (y3 : Int32) (y4 : Int32) : Option (Int32 × ModelV) := (f_X5_isGauge M y1).bind (fun x1 => if (b2i x1) = 0 then (some ((-1), M)) else ((f_X5_isDay y2).bind (fun x4 => if (b2i x4) = 0 then (some ((-2), M)) else ((f_X5_isDay y3).bind (fun x7 => if (b2i x7) = 0 then (some ((-2), M)) else (if y3 < y2 then (some ((-2), M)) else ((f_X5_in y4 0 1).bind (fun x11 => if (b2i x11) = 0 then (some ((-2), M)) else ((lp (f_X5_fail_L45 y1 y3 y4) fu (y2, M)).bind (fun x14 => (f_X5_daysOut x14 y1).bind (fun x21 => some (x21, x14))))))))))))
set_option maxHeartbeats 4000000 in
set_option maxRecDepth 100000 in
theorem c_X5_fail (l : Launch) (D : va_G) (k : Nat → ClassId) (a : Nat → Nat) (M : ModelV) (y1 : Int32) (y2 : Int32) (y3 : Int32) (y4 : Int32) (r : Int32 × ModelV) (h : f_X5_fail M y1 y2 y3 y4 = some r) : Met l yX5_fail wsX5_fail rm_X5_fail (va_Pc [.ref (a 0), .int y1, .int y2, .int y3, .int y4] (MB D k (modelW k a M))) (QM D (modelW k a M) (modelW k a r.2) (some (.int r.1))) 0 0 (AD (modelW k a M)) := by
  refine met_Mi (by decide) rfl (Nat.le_of_ble_eq_true rfl) ?_
  intro p e s m below meth c Q args ls hx hb hml hown hts hP hK hN hD hl hQ
  have hl : lv_has ls 6 [(0, .ref (a 0)), (1, .int y1), (2, .int y2), (3, .int y3), (4, .int y4)] := hl
  have hown : s.vm.findClass RX5 = some m.cls := hown
  unfold f_X5_fail at h
  have hiRX5 : ∀ w ∈ u_ws RX5 TX5 19, w ∈ wsX5_fail := by decide +kernel
  have hf25 := hts (.fieldLink RX5 25 "RainCellsModel" "isOut" "[Z") (by decide +kernel)
  generalize AD (modelW k a M) = A0 at hD hQ
  have hS : va_S A0 s.heap s.heap [] := va_S.rf
  refine lv_aload_n hx hb dX5_fail_0 rfl (lv_at hl 0 rfl) ?_
  refine lv_iload_n hx hb dX5_fail_1 rfl (lv_at hl 1 rfl) ?_
  obtain ⟨x1, h2, h⟩ := bd_s h
  refine cR_V (As := [.int y1]) (rest := []) (n := 1) (v := .int (b2i x1)) hx hb hml hown hts hK hN hl.1 (c_X5_isGauge l D k a M y1 x1 h2) gX5_fail_X5_isGauge rfl (by decide +kernel) ⟨⟨rfl, rfl⟩, by decide, by decide⟩ hP 0 5 rfl rfl rfl rfl rfl (Nat.le_of_ble_eq_true rfl) dX5_fail_2 ⟨Nat.zero_le _, Nat.zero_le _⟩ ?_
  refine lv_if_ne (tgt := 10) hx hb dX5_fail_5 (by decide) (fun c3 => ?_) (fun c3 => ?_)
  · have h := if_f h c3
    refine lv_iload_n hx hb dX5_fail_10 rfl (lv_at hl 2 rfl) ?_
    obtain ⟨x4, h5, h⟩ := bd_s h
    refine cR_S (As := [.int y2]) (rest := []) (n := 1) (v := .int (b2i x4)) hx hb hml hown hts hK hN hl.1 (c_X5_isDay l D k y2 x4 h5) gX5_fail_X5_isDay rfl (by decide +kernel) ⟨⟨rfl, rfl⟩, by decide, by decide⟩ va_P_nil rfl rfl (Nat.le_of_ble_eq_true rfl) dX5_fail_11 ⟨Nat.zero_le _, Nat.zero_le _⟩ ?_
    refine lv_if_eq (tgt := 39) hx hb dX5_fail_14 (by decide) (fun c6 => ?_) (fun c6 => ?_)
    · have h := if_t h c6
      refine lv_bipush (v := (-2)) hx hb dX5_fail_39 (by decide) ?_
      obtain rfl := Option.some.inj h
      exact hQ _ _ _ _ dX5_fail_41 hP hS
    · have h := if_f h c6
      refine lv_iload_n hx hb dX5_fail_17 rfl (lv_at hl 3 rfl) ?_
      obtain ⟨x7, h8, h⟩ := bd_s h
      refine cR_S (As := [.int y3]) (rest := []) (n := 1) (v := .int (b2i x7)) hx hb hml hown hts hK hN hl.1 (c_X5_isDay l D k y3 x7 h8) gX5_fail_X5_isDay rfl (by decide +kernel) ⟨⟨rfl, rfl⟩, by decide, by decide⟩ va_P_nil rfl rfl (Nat.le_of_ble_eq_true rfl) dX5_fail_18 ⟨Nat.zero_le _, Nat.zero_le _⟩ ?_
      refine lv_if_eq (tgt := 39) hx hb dX5_fail_21 (by decide) (fun c9 => ?_) (fun c9 => ?_)
      · have h := if_t h c9
        refine lv_bipush (v := (-2)) hx hb dX5_fail_39 (by decide) ?_
        obtain rfl := Option.some.inj h
        exact hQ _ _ _ _ dX5_fail_41 hP hS
      · have h := if_f h c9
        refine lv_iload_n hx hb dX5_fail_24 rfl (lv_at hl 2 rfl) ?_
        refine lv_iload_n hx hb dX5_fail_25 rfl (lv_at hl 3 rfl) ?_
        refine lv_icmp_gt (tgt := 39) hx hb dX5_fail_26 (by decide) (fun c10 => ?_) (fun c10 => ?_)
        · have h := if_t h c10
          refine lv_bipush (v := (-2)) hx hb dX5_fail_39 (by decide) ?_
          obtain rfl := Option.some.inj h
          exact hQ _ _ _ _ dX5_fail_41 hP hS
        · have h := if_f h c10
          refine lv_iload hx hb dX5_fail_29 (lv_at hl 4 rfl) ?_
          refine lv_iconst (v := 0) hx hb dX5_fail_31 (by decide) ?_
          refine lv_iconst (v := 1) hx hb dX5_fail_32 (by decide) ?_
          obtain ⟨x11, h12, h⟩ := bd_s h
          refine cR_S (As := [.int y4, .int 0, .int 1]) (rest := []) (n := 3) (v := .int (b2i x11)) hx hb hml hown hts hK hN hl.1 (c_X5_in l D k y4 0 1 x11 h12) gX5_fail_X5_in rfl (by decide +kernel) ⟨⟨rfl, rfl⟩, by decide, by decide⟩ va_P_nil rfl rfl (Nat.le_of_ble_eq_true rfl) dX5_fail_33 ⟨Nat.zero_le _, Nat.zero_le _⟩ ?_
          refine lv_if_ne (tgt := 42) hx hb dX5_fail_36 (by decide) (fun c13 => ?_) (fun c13 => ?_)
          · have h := if_f h c13
            refine lv_iload_n hx hb dX5_fail_42 rfl (lv_at hl 2 rfl) ?_
            refine lv_istore (lv' := [(5, .int y2), (0, .ref (a 0)), (1, .int y1), (2, .int y2), (3, .int y3), (4, .int y4)]) hx hb dX5_fail_43 hl (by decide) rfl (fun ls hl => ?_)
            obtain ⟨x14, h15, h⟩ := bd_s h
            have K29 : ∀ (ls : Array Slot) (H : Heap) (locs : List Loc), lv_has ls 6 [(0, .ref (a 0)), (1, .int y1)] → va_P D vwCl (modelW k a x14) H → va_D A0 (modelW k a x14) → va_S A0 s.heap H locs → W p l e rm_X5_fail s m args below meth c H locs 0 0 Q (F0 m 80 ls []) := by
              intro ls H locs hl hP hD hS
              refine lv_aload_n hx hb dX5_fail_80 rfl (lv_at hl 0 rfl) ?_
              refine lv_iload_n hx hb dX5_fail_81 rfl (lv_at hl 1 rfl) ?_
              obtain ⟨x21, h22, h⟩ := bd_s h
              refine cR_V (As := [.int y1]) (rest := []) (n := 1) (v := .int x21) hx hb hml hown hts hK hN hl.1 (c_X5_daysOut l D k a x14 y1 x21 h22) gX5_fail_X5_daysOut rfl (by decide +kernel) ⟨⟨rfl, rfl⟩, by decide, by decide⟩ hP 0 5 rfl rfl rfl rfl rfl (Nat.le_of_ble_eq_true rfl) dX5_fail_82 ⟨Nat.zero_le _, Nat.zero_le _⟩ ?_
              obtain rfl := Option.some.inj h
              exact hQ _ _ _ _ dX5_fail_85 hP hS
            refine lp_W (P := fun z16 => ∀ (ls : Array Slot) (H : Heap) (locs : List Loc), lv_has ls 6 [(0, .ref (a 0)), (1, .int y1), (3, .int y3), (4, .int y4), (5, .int z16.1)] → va_P D vwCl (modelW k a z16.2) H → va_D A0 (modelW k a z16.2) → va_S A0 s.heap H locs → W p l e rm_X5_fail s m args below meth c H locs 0 0 Q (F0 m 45 ls [])) (E := fun x14 => ∀ (ls : Array Slot) (H : Heap) (locs : List Loc), lv_has ls 6 [(0, .ref (a 0)), (1, .int y1)] → va_P D vwCl (modelW k a x14) H → va_D A0 (modelW k a x14) → va_S A0 s.heap H locs → W p l e rm_X5_fail s m args below meth c H locs 0 0 Q (F0 m 80 ls [])) (fun z16 xx18 hB17 kI19 kE20 => ?_) _ _ _ h15 K29 ls s.heap [] (lv_sub hl [1, 2, 4, 5, 0] rfl) hP hD hS
            intro ls H locs hl hP hD hS
            unfold f_X5_fail_L45 at hB17
            refine lv_iload hx hb dX5_fail_45 (lv_at hl 4 rfl) ?_
            refine lv_iload_n hx hb dX5_fail_47 rfl (lv_at hl 2 rfl) ?_
            refine lv_icmp_gt (tgt := 80) hx hb dX5_fail_48 (by decide) (fun c23 => ?_) (fun c23 => ?_)
            · have hB17 := if_t hB17 c23
              exact kE20 _ (Option.some.inj hB17).symm ls H locs (lv_sub hl [0, 1] rfl) hP hD hS
            · have hB17 := if_f hB17 c23
              refine lv_aload_n hx hb dX5_fail_51 rfl (lv_at hl 0 rfl) ?_
              refine va_get (D := D) (ci := 5) (v := .ref (a 6)) (C := RX5) (T := TX5) (N := 19) hx hb hts hiRX5 hown hK hP 0 rfl rfl 6 (by decide) hf25 (fun _ h9 => h9) rfl dX5_fail_52 ?_
              refine lv_bipush (v := 64) hx hb dX5_fail_55 (by decide) ?_
              refine lv_iload_n hx hb dX5_fail_57 rfl (lv_at hl 1 rfl) ?_
              refine lv_imul hx hb dX5_fail_58 ?_
              refine lv_iload hx hb dX5_fail_59 (lv_at hl 4 rfl) ?_
              refine lv_iadd hx hb dX5_fail_61 ?_
              refine lv_iload hx hb dX5_fail_62 (lv_at hl 3 rfl) ?_
              refine lv_iconst (v := 1) hx hb dX5_fail_64 (by decide) ?_
              obtain ⟨x24, h25, hB17⟩ := bd_s hB17
              have K26 : W p l e rm_X5_fail s m args below meth c H locs 0 0 Q (F0 m 73 ls [.int x24, .int ((64 * y1) + z16.1), .ref (a 6)]) := by
                obtain ⟨c27, hB17⟩ := gd_s hB17
                refine va_zast (D := D) hx hb hK hP hD hS 6 2 rfl rfl (ix_in c27) dX5_fail_73 (fun H locs hP hD hS => ?_)
                have hP : va_P D vwCl (modelW k a ((z16.2).1, (z16.2).2.1, (z16.2).2.2.1, (z16.2).2.2.2.1, (z16.2).2.2.2.2.1, (z16.2).2.2.2.2.2.1, (upd ((z16.2).2.2.2.2.2.2.1) (((64 * y1) + z16.1) : Int32).toNatClampNeg (vp_nar .boolean x24)), (z16.2).2.2.2.2.2.2.2)) H := hP
                have hD : va_D A0 (modelW k a ((z16.2).1, (z16.2).2.1, (z16.2).2.2.1, (z16.2).2.2.2.1, (z16.2).2.2.2.2.1, (z16.2).2.2.2.2.2.1, (upd ((z16.2).2.2.2.2.2.2.1) (((64 * y1) + z16.1) : Int32).toNatClampNeg (vp_nar .boolean x24)), (z16.2).2.2.2.2.2.2.2)) := hD
                refine lv_iinc (v := (z16.1 + 1)) (lv' := [(5, .int (z16.1 + 1)), (0, .ref (a 0)), (1, .int y1), (3, .int y3), (4, .int y4)]) hx hb dX5_fail_74 hl (k := 4) rfl rfl (by decide) rfl (fun ls hl => ?_)
                refine lv_goto (tgt := 45) hx hb dX5_fail_77 (by decide) ?_
                exact kI19 _ (Option.some.inj hB17).symm ls H locs (lv_sub hl [1, 2, 3, 4, 0] rfl) hP hD hS
              refine lv_icmp_ne (tgt := 72) hx hb dX5_fail_65 (by decide) (fun c28 => ?_) (fun c28 => ?_)
              · have h25 := if_f h25 c28
                refine lv_iconst (v := 0) hx hb dX5_fail_72 (by decide) ?_
                obtain rfl := Option.some.inj h25
                exact K26
              · have h25 := if_t h25 c28
                refine lv_iconst (v := 1) hx hb dX5_fail_68 (by decide) ?_
                refine lv_goto (tgt := 73) hx hb dX5_fail_69 (by decide) ?_
                obtain rfl := Option.some.inj h25
                exact K26
          · have h := if_t h c13
            refine lv_bipush (v := (-2)) hx hb dX5_fail_39 (by decide) ?_
            obtain rfl := Option.some.inj h
            exact hQ _ _ _ _ dX5_fail_41 hP hS
  · have h := if_t h c3
    refine lv_iconst (v := (-1)) hx hb dX5_fail_8 (by decide) ?_
    obtain rfl := Option.some.inj h
    exact hQ _ _ _ _ dX5_fail_9 hP hS

abbrev rm_X5_rain : Room := { frames := 2, cells := 0, slots := 0, locals := 43 }
def f_X5_rain (M : ModelV) (y1 : Int32) (y2 : Int32) (y3 : Int32) : Option (Int32 × ModelV) := (f_X5_isGauge M y1).bind (fun x1 => if (b2i x1) = 0 then (some ((-1), M)) else ((f_X5_isDay y2).bind (fun x4 => if (b2i x4) = 0 then (some ((-2), M)) else (if y3 = (-6) then (gd (ix ((64 * y1) + y2) 512) (gd (ix ((64 * y1) + y2) 512) (some ((M.2.2.2.2.2.2.2.1 (((64 * y1) + y2) : Int32).toNatClampNeg), (M.1, M.2.1, M.2.2.1, M.2.2.2.1, M.2.2.2.2.1, M.2.2.2.2.2.1, M.2.2.2.2.2.2.1, (upd M.2.2.2.2.2.2.2.1 (((64 * y1) + y2) : Int32).toNatClampNeg y3), M.2.2.2.2.2.2.2.2))))) else ((f_X5_in y3 0 9999).bind (fun x10 => if (b2i x10) = 0 then (some ((-2), M)) else (gd (ix ((64 * y1) + y2) 512) (gd (ix ((64 * y1) + y2) 512) (some ((M.2.2.2.2.2.2.2.1 (((64 * y1) + y2) : Int32).toNatClampNeg), (M.1, M.2.1, M.2.2.1, M.2.2.2.1, M.2.2.2.2.1, M.2.2.2.2.2.1, M.2.2.2.2.2.2.1, (upd M.2.2.2.2.2.2.2.1 (((64 * y1) + y2) : Int32).toNatClampNeg y3), M.2.2.2.2.2.2.2.2)))))))))))
set_option maxHeartbeats 4000000 in
set_option maxRecDepth 100000 in
theorem c_X5_rain (l : Launch) (D : va_G) (k : Nat → ClassId) (a : Nat → Nat) (M : ModelV) (y1 : Int32) (y2 : Int32) (y3 : Int32) (r : Int32 × ModelV) (h : f_X5_rain M y1 y2 y3 = some r) : Met l yX5_rain wsX5_rain rm_X5_rain (va_Pc [.ref (a 0), .int y1, .int y2, .int y3] (MB D k (modelW k a M))) (QM D (modelW k a M) (modelW k a r.2) (some (.int r.1))) 0 0 (AD (modelW k a M)) := by
  refine met_Mi (by decide) rfl (Nat.le_of_ble_eq_true rfl) ?_
  intro p e s m below meth c Q args ls hx hb hml hown hts hP hK hN hD hl hQ
  have hl : lv_has ls 5 [(0, .ref (a 0)), (1, .int y1), (2, .int y2), (3, .int y3)] := hl
  have hown : s.vm.findClass RX5 = some m.cls := hown
  unfold f_X5_rain at h
  have hiRX5 : ∀ w ∈ u_ws RX5 TX5 19, w ∈ wsX5_rain := by decide +kernel
  have hf29 := hts (.fieldLink RX5 29 "RainCellsModel" "readings" "[I") (by decide +kernel)
  generalize AD (modelW k a M) = A0 at hD hQ
  have hS : va_S A0 s.heap s.heap [] := va_S.rf
  refine lv_aload_n hx hb dX5_rain_0 rfl (lv_at hl 0 rfl) ?_
  refine lv_iload_n hx hb dX5_rain_1 rfl (lv_at hl 1 rfl) ?_
  obtain ⟨x1, h2, h⟩ := bd_s h
  refine cR_V (As := [.int y1]) (rest := []) (n := 1) (v := .int (b2i x1)) hx hb hml hown hts hK hN hl.1 (c_X5_isGauge l D k a M y1 x1 h2) gX5_rain_X5_isGauge rfl (by decide +kernel) ⟨⟨rfl, rfl⟩, by decide, by decide⟩ hP 0 5 rfl rfl rfl rfl rfl (Nat.le_of_ble_eq_true rfl) dX5_rain_2 ⟨Nat.zero_le _, Nat.zero_le _⟩ ?_
  refine lv_if_ne (tgt := 10) hx hb dX5_rain_5 (by decide) (fun c3 => ?_) (fun c3 => ?_)
  · have h := if_f h c3
    refine lv_iload_n hx hb dX5_rain_10 rfl (lv_at hl 2 rfl) ?_
    obtain ⟨x4, h5, h⟩ := bd_s h
    refine cR_S (As := [.int y2]) (rest := []) (n := 1) (v := .int (b2i x4)) hx hb hml hown hts hK hN hl.1 (c_X5_isDay l D k y2 x4 h5) gX5_rain_X5_isDay rfl (by decide +kernel) ⟨⟨rfl, rfl⟩, by decide, by decide⟩ va_P_nil rfl rfl (Nat.le_of_ble_eq_true rfl) dX5_rain_11 ⟨Nat.zero_le _, Nat.zero_le _⟩ ?_
    refine lv_if_eq (tgt := 34) hx hb dX5_rain_14 (by decide) (fun c6 => ?_) (fun c6 => ?_)
    · have h := if_t h c6
      refine lv_bipush (v := (-2)) hx hb dX5_rain_34 (by decide) ?_
      obtain rfl := Option.some.inj h
      exact hQ _ _ _ _ dX5_rain_36 hP hS
    · have h := if_f h c6
      refine lv_iload_n hx hb dX5_rain_17 rfl (lv_at hl 3 rfl) ?_
      refine lv_bipush (v := (-6)) hx hb dX5_rain_18 (by decide) ?_
      refine lv_icmp_eq (tgt := 37) hx hb dX5_rain_20 (by decide) (fun c7 => ?_) (fun c7 => ?_)
      · have h := if_t h c7
        refine lv_aload_n hx hb dX5_rain_37 rfl (lv_at hl 0 rfl) ?_
        refine va_get (D := D) (ci := 5) (v := .ref (a 7)) (C := RX5) (T := TX5) (N := 19) hx hb hts hiRX5 hown hK hP 0 rfl rfl 7 (by decide) hf29 (fun _ h9 => h9) rfl dX5_rain_38 ?_
        refine lv_bipush (v := 64) hx hb dX5_rain_41 (by decide) ?_
        refine lv_iload_n hx hb dX5_rain_43 rfl (lv_at hl 1 rfl) ?_
        refine lv_imul hx hb dX5_rain_44 ?_
        refine lv_iload_n hx hb dX5_rain_45 rfl (lv_at hl 2 rfl) ?_
        refine lv_iadd hx hb dX5_rain_46 ?_
        obtain ⟨c8, h⟩ := gd_s h
        refine va_iald (D := D) hx hb hK hP 7 0 rfl rfl (ix_in c8) dX5_rain_47 ?_
        refine lv_istore (lv' := [(4, .int (M.2.2.2.2.2.2.2.1 (((64 * y1) + y2) : Int32).toNatClampNeg)), (0, .ref (a 0)), (1, .int y1), (2, .int y2), (3, .int y3)]) hx hb dX5_rain_48 hl (by decide) rfl (fun ls hl => ?_)
        refine lv_aload_n hx hb dX5_rain_50 rfl (lv_at hl 1 rfl) ?_
        refine va_get (D := D) (ci := 5) (v := .ref (a 7)) (C := RX5) (T := TX5) (N := 19) hx hb hts hiRX5 hown hK hP 0 rfl rfl 7 (by decide) hf29 (fun _ h9 => h9) rfl dX5_rain_51 ?_
        refine lv_bipush (v := 64) hx hb dX5_rain_54 (by decide) ?_
        refine lv_iload_n hx hb dX5_rain_56 rfl (lv_at hl 2 rfl) ?_
        refine lv_imul hx hb dX5_rain_57 ?_
        refine lv_iload_n hx hb dX5_rain_58 rfl (lv_at hl 3 rfl) ?_
        refine lv_iadd hx hb dX5_rain_59 ?_
        refine lv_iload_n hx hb dX5_rain_60 rfl (lv_at hl 4 rfl) ?_
        obtain ⟨c9, h⟩ := gd_s h
        refine va_iast (D := D) hx hb hK hP hD hS 7 0 rfl rfl (ix_in c9) dX5_rain_61 (fun H locs hP hD hS => ?_)
        have hP : va_P D vwCl (modelW k a (M.1, M.2.1, M.2.2.1, M.2.2.2.1, M.2.2.2.2.1, M.2.2.2.2.2.1, M.2.2.2.2.2.2.1, (upd M.2.2.2.2.2.2.2.1 (((64 * y1) + y2) : Int32).toNatClampNeg y3), M.2.2.2.2.2.2.2.2)) H := hP
        have hD : va_D A0 (modelW k a (M.1, M.2.1, M.2.2.1, M.2.2.2.1, M.2.2.2.2.1, M.2.2.2.2.2.1, M.2.2.2.2.2.2.1, (upd M.2.2.2.2.2.2.2.1 (((64 * y1) + y2) : Int32).toNatClampNeg y3), M.2.2.2.2.2.2.2.2)) := hD
        refine lv_iload hx hb dX5_rain_62 (lv_at hl 0 rfl) ?_
        obtain rfl := Option.some.inj h
        exact hQ _ _ _ _ dX5_rain_64 hP hS
      · have h := if_f h c7
        refine lv_iload_n hx hb dX5_rain_23 rfl (lv_at hl 3 rfl) ?_
        refine lv_iconst (v := 0) hx hb dX5_rain_24 (by decide) ?_
        refine lv_sipush (v := 9999) hx hb dX5_rain_25 (by decide) ?_
        obtain ⟨x10, h11, h⟩ := bd_s h
        refine cR_S (As := [.int y3, .int 0, .int 9999]) (rest := []) (n := 3) (v := .int (b2i x10)) hx hb hml hown hts hK hN hl.1 (c_X5_in l D k y3 0 9999 x10 h11) gX5_rain_X5_in rfl (by decide +kernel) ⟨⟨rfl, rfl⟩, by decide, by decide⟩ va_P_nil rfl rfl (Nat.le_of_ble_eq_true rfl) dX5_rain_28 ⟨Nat.zero_le _, Nat.zero_le _⟩ ?_
        refine lv_if_ne (tgt := 37) hx hb dX5_rain_31 (by decide) (fun c12 => ?_) (fun c12 => ?_)
        · have h := if_f h c12
          refine lv_aload_n hx hb dX5_rain_37 rfl (lv_at hl 0 rfl) ?_
          refine va_get (D := D) (ci := 5) (v := .ref (a 7)) (C := RX5) (T := TX5) (N := 19) hx hb hts hiRX5 hown hK hP 0 rfl rfl 7 (by decide) hf29 (fun _ h9 => h9) rfl dX5_rain_38 ?_
          refine lv_bipush (v := 64) hx hb dX5_rain_41 (by decide) ?_
          refine lv_iload_n hx hb dX5_rain_43 rfl (lv_at hl 1 rfl) ?_
          refine lv_imul hx hb dX5_rain_44 ?_
          refine lv_iload_n hx hb dX5_rain_45 rfl (lv_at hl 2 rfl) ?_
          refine lv_iadd hx hb dX5_rain_46 ?_
          obtain ⟨c13, h⟩ := gd_s h
          refine va_iald (D := D) hx hb hK hP 7 0 rfl rfl (ix_in c13) dX5_rain_47 ?_
          refine lv_istore (lv' := [(4, .int (M.2.2.2.2.2.2.2.1 (((64 * y1) + y2) : Int32).toNatClampNeg)), (0, .ref (a 0)), (1, .int y1), (2, .int y2), (3, .int y3)]) hx hb dX5_rain_48 hl (by decide) rfl (fun ls hl => ?_)
          refine lv_aload_n hx hb dX5_rain_50 rfl (lv_at hl 1 rfl) ?_
          refine va_get (D := D) (ci := 5) (v := .ref (a 7)) (C := RX5) (T := TX5) (N := 19) hx hb hts hiRX5 hown hK hP 0 rfl rfl 7 (by decide) hf29 (fun _ h9 => h9) rfl dX5_rain_51 ?_
          refine lv_bipush (v := 64) hx hb dX5_rain_54 (by decide) ?_
          refine lv_iload_n hx hb dX5_rain_56 rfl (lv_at hl 2 rfl) ?_
          refine lv_imul hx hb dX5_rain_57 ?_
          refine lv_iload_n hx hb dX5_rain_58 rfl (lv_at hl 3 rfl) ?_
          refine lv_iadd hx hb dX5_rain_59 ?_
          refine lv_iload_n hx hb dX5_rain_60 rfl (lv_at hl 4 rfl) ?_
          obtain ⟨c14, h⟩ := gd_s h
          refine va_iast (D := D) hx hb hK hP hD hS 7 0 rfl rfl (ix_in c14) dX5_rain_61 (fun H locs hP hD hS => ?_)
          have hP : va_P D vwCl (modelW k a (M.1, M.2.1, M.2.2.1, M.2.2.2.1, M.2.2.2.2.1, M.2.2.2.2.2.1, M.2.2.2.2.2.2.1, (upd M.2.2.2.2.2.2.2.1 (((64 * y1) + y2) : Int32).toNatClampNeg y3), M.2.2.2.2.2.2.2.2)) H := hP
          have hD : va_D A0 (modelW k a (M.1, M.2.1, M.2.2.1, M.2.2.2.1, M.2.2.2.2.1, M.2.2.2.2.2.1, M.2.2.2.2.2.2.1, (upd M.2.2.2.2.2.2.2.1 (((64 * y1) + y2) : Int32).toNatClampNeg y3), M.2.2.2.2.2.2.2.2)) := hD
          refine lv_iload hx hb dX5_rain_62 (lv_at hl 0 rfl) ?_
          obtain rfl := Option.some.inj h
          exact hQ _ _ _ _ dX5_rain_64 hP hS
        · have h := if_t h c12
          refine lv_bipush (v := (-2)) hx hb dX5_rain_34 (by decide) ?_
          obtain rfl := Option.some.inj h
          exact hQ _ _ _ _ dX5_rain_36 hP hS
  · have h := if_t h c3
    refine lv_iconst (v := (-1)) hx hb dX5_rain_8 (by decide) ?_
    obtain rfl := Option.some.inj h
    exact hQ _ _ _ _ dX5_rain_9 hP hS

abbrev rm_X5_of : Room := { frames := 2, cells := 0, slots := 0, locals := 43 }
def f_X5_of (M : ModelV) (y1 : Int32) (y2 : Int32) : Option (Int32) := (f_X5_isGauge M y1).bind (fun x1 => if (b2i x1) = 0 then (some (-1)) else (if y2 = 0 then (gd (ix y1 8) (some ((M.2.2.2.1 (y1 : Int32).toNatClampNeg) + 1000))) else (if y2 = 1 then (gd (ix y1 8) (some ((M.2.2.2.2.1 (y1 : Int32).toNatClampNeg) + 1000))) else (if y2 = 2 then (gd (ix y1 8) (some ((M.2.2.2.2.2.1 (y1 : Int32).toNatClampNeg) + 1000))) else (if y2 = 3 then ((f_X5_daysOut M y1).bind (fun x11 => some x11)) else (if y2 = 4 then ((f_X5_daysRead M y1).bind (fun x14 => some x14)) else (some (-2))))))))
set_option maxHeartbeats 4000000 in
set_option maxRecDepth 100000 in
theorem c_X5_of (l : Launch) (D : va_G) (k : Nat → ClassId) (a : Nat → Nat) (M : ModelV) (y1 : Int32) (y2 : Int32) (r : Int32) (h : f_X5_of M y1 y2 = some r) : Met l yX5_of wsX5_of rm_X5_of (va_Pc [.ref (a 0), .int y1, .int y2] (RB D k (modelW k a M))) (QR (some (.int r))) 0 0 (fun _ => False) := by
  refine met_Ri (by decide) rfl (Nat.le_of_ble_eq_true rfl) ?_
  intro p e s m below meth c Q args ls hx hb hml hown hts hP hK hN hl hQ
  have hl : lv_has ls 3 [(0, .ref (a 0)), (1, .int y1), (2, .int y2)] := hl
  have hown : s.vm.findClass RX5 = some m.cls := hown
  unfold f_X5_of at h
  have hiRX5 : ∀ w ∈ u_ws RX5 TX5 19, w ∈ wsX5_of := by decide +kernel
  have hf16 := hts (.fieldLink RX5 16 "RainCellsModel" "px" "[I") (by decide +kernel)
  have hf19 := hts (.fieldLink RX5 19 "RainCellsModel" "py" "[I") (by decide +kernel)
  have hf22 := hts (.fieldLink RX5 22 "RainCellsModel" "reach" "[I") (by decide +kernel)
  refine lv_aload_n hx hb dX5_of_0 rfl (lv_at hl 0 rfl) ?_
  refine lv_iload_n hx hb dX5_of_1 rfl (lv_at hl 1 rfl) ?_
  obtain ⟨x1, h2, h⟩ := bd_s h
  refine cR_V (As := [.int y1]) (rest := []) (n := 1) (v := .int (b2i x1)) hx hb hml hown hts hK hN hl.1 (c_X5_isGauge l D k a M y1 x1 h2) gX5_of_X5_isGauge rfl (by decide +kernel) ⟨⟨rfl, rfl⟩, by decide, by decide⟩ hP 0 5 rfl rfl rfl rfl rfl (Nat.le_of_ble_eq_true rfl) dX5_of_2 ⟨Nat.zero_le _, Nat.zero_le _⟩ ?_
  refine lv_if_ne (tgt := 10) hx hb dX5_of_5 (by decide) (fun c3 => ?_) (fun c3 => ?_)
  · have h := if_f h c3
    refine lv_iload_n hx hb dX5_of_10 rfl (lv_at hl 2 rfl) ?_
    by_cases c4 : y2 = 0
    · have h := if_t h c4
      refine lv_tableIn (tgt := 44) hx hb dX5_of_11 (by rw [c4]; decide) (by rw [c4]; decide) (by rw [c4]; rfl) (by decide) ?_
      refine lv_aload_n hx hb dX5_of_44 rfl (lv_at hl 0 rfl) ?_
      refine va_get (D := D) (ci := 5) (v := .ref (a 3)) (C := RX5) (T := TX5) (N := 19) hx hb hts hiRX5 hown hK hP 0 rfl rfl 3 (by decide) hf16 (fun _ h9 => h9) rfl dX5_of_45 ?_
      refine lv_iload_n hx hb dX5_of_48 rfl (lv_at hl 1 rfl) ?_
      obtain ⟨c5, h⟩ := gd_s h
      refine va_iald (D := D) hx hb hK hP 3 0 rfl rfl (ix_in c5) dX5_of_49 ?_
      refine lv_sipush (v := 1000) hx hb dX5_of_50 (by decide) ?_
      refine lv_iadd hx hb dX5_of_53 ?_
      obtain rfl := Option.some.inj h
      exact hQ _ _ dX5_of_54
    have h := if_f h c4
    by_cases c6 : y2 = 1
    · have h := if_t h c6
      refine lv_tableIn (tgt := 55) hx hb dX5_of_11 (by rw [c6]; decide) (by rw [c6]; decide) (by rw [c6]; rfl) (by decide) ?_
      refine lv_aload_n hx hb dX5_of_55 rfl (lv_at hl 0 rfl) ?_
      refine va_get (D := D) (ci := 5) (v := .ref (a 4)) (C := RX5) (T := TX5) (N := 19) hx hb hts hiRX5 hown hK hP 0 rfl rfl 4 (by decide) hf19 (fun _ h9 => h9) rfl dX5_of_56 ?_
      refine lv_iload_n hx hb dX5_of_59 rfl (lv_at hl 1 rfl) ?_
      obtain ⟨c7, h⟩ := gd_s h
      refine va_iald (D := D) hx hb hK hP 4 0 rfl rfl (ix_in c7) dX5_of_60 ?_
      refine lv_sipush (v := 1000) hx hb dX5_of_61 (by decide) ?_
      refine lv_iadd hx hb dX5_of_64 ?_
      obtain rfl := Option.some.inj h
      exact hQ _ _ dX5_of_65
    have h := if_f h c6
    by_cases c8 : y2 = 2
    · have h := if_t h c8
      refine lv_tableIn (tgt := 66) hx hb dX5_of_11 (by rw [c8]; decide) (by rw [c8]; decide) (by rw [c8]; rfl) (by decide) ?_
      refine lv_aload_n hx hb dX5_of_66 rfl (lv_at hl 0 rfl) ?_
      refine va_get (D := D) (ci := 5) (v := .ref (a 5)) (C := RX5) (T := TX5) (N := 19) hx hb hts hiRX5 hown hK hP 0 rfl rfl 5 (by decide) hf22 (fun _ h9 => h9) rfl dX5_of_67 ?_
      refine lv_iload_n hx hb dX5_of_70 rfl (lv_at hl 1 rfl) ?_
      obtain ⟨c9, h⟩ := gd_s h
      refine va_iald (D := D) hx hb hK hP 5 0 rfl rfl (ix_in c9) dX5_of_71 ?_
      refine lv_sipush (v := 1000) hx hb dX5_of_72 (by decide) ?_
      refine lv_iadd hx hb dX5_of_75 ?_
      obtain rfl := Option.some.inj h
      exact hQ _ _ dX5_of_76
    have h := if_f h c8
    by_cases c10 : y2 = 3
    · have h := if_t h c10
      refine lv_tableIn (tgt := 77) hx hb dX5_of_11 (by rw [c10]; decide) (by rw [c10]; decide) (by rw [c10]; rfl) (by decide) ?_
      refine lv_aload_n hx hb dX5_of_77 rfl (lv_at hl 0 rfl) ?_
      refine lv_iload_n hx hb dX5_of_78 rfl (lv_at hl 1 rfl) ?_
      obtain ⟨x11, h12, h⟩ := bd_s h
      refine cR_V (As := [.int y1]) (rest := []) (n := 1) (v := .int x11) hx hb hml hown hts hK hN hl.1 (c_X5_daysOut l D k a M y1 x11 h12) gX5_of_X5_daysOut rfl (by decide +kernel) ⟨⟨rfl, rfl⟩, by decide, by decide⟩ hP 0 5 rfl rfl rfl rfl rfl (Nat.le_of_ble_eq_true rfl) dX5_of_79 ⟨Nat.zero_le _, Nat.zero_le _⟩ ?_
      obtain rfl := Option.some.inj h
      exact hQ _ _ dX5_of_82
    have h := if_f h c10
    by_cases c13 : y2 = 4
    · have h := if_t h c13
      refine lv_tableIn (tgt := 83) hx hb dX5_of_11 (by rw [c13]; decide) (by rw [c13]; decide) (by rw [c13]; rfl) (by decide) ?_
      refine lv_aload_n hx hb dX5_of_83 rfl (lv_at hl 0 rfl) ?_
      refine lv_iload_n hx hb dX5_of_84 rfl (lv_at hl 1 rfl) ?_
      obtain ⟨x14, h15, h⟩ := bd_s h
      refine cR_V (As := [.int y1]) (rest := []) (n := 1) (v := .int x14) hx hb hml hown hts hK hN hl.1 (c_X5_daysRead l D k a M y1 x14 h15) gX5_of_X5_daysRead rfl (by decide +kernel) ⟨⟨rfl, rfl⟩, by decide, by decide⟩ hP 0 5 rfl rfl rfl rfl rfl (Nat.le_of_ble_eq_true rfl) dX5_of_85 ⟨Nat.zero_le _, Nat.zero_le _⟩ ?_
      obtain rfl := Option.some.inj h
      exact hQ _ _ dX5_of_88
    have h := if_f h c13
    refine lv_tableOut (tgt := 89) hx hb dX5_of_11 (by have n0 := lv_neT c4 (k := 0) (a := 0) (by decide); have n1 := lv_neT c6 (k := 1) (a := 1) (by decide); have n2 := lv_neT c8 (k := 2) (a := 2) (by decide); have n3 := lv_neT c10 (k := 3) (a := 3) (by decide); have n4 := lv_neT c13 (k := 4) (a := 4) (by decide); omega) (by decide) ?_
    refine lv_bipush (v := (-2)) hx hb dX5_of_89 (by decide) ?_
    obtain rfl := Option.some.inj h
    exact hQ _ _ dX5_of_91
  · have h := if_t h c3
    refine lv_iconst (v := (-1)) hx hb dX5_of_8 (by decide) ?_
    obtain rfl := Option.some.inj h
    exact hQ _ _ dX5_of_9

abbrev rm_X5_reading : Room := { frames := 2, cells := 0, slots := 0, locals := 43 }
def f_X5_reading (M : ModelV) (y1 : Int32) (y2 : Int32) : Option (Int32) := (f_X5_isGauge M y1).bind (fun x1 => if (b2i x1) = 0 then (some (-1)) else ((f_X5_isDay y2).bind (fun x4 => if (b2i x4) = 0 then (some (-2)) else (gd (ix ((64 * y1) + y2) 512) (some (M.2.2.2.2.2.2.2.1 (((64 * y1) + y2) : Int32).toNatClampNeg))))))
set_option maxHeartbeats 4000000 in
set_option maxRecDepth 100000 in
theorem c_X5_reading (l : Launch) (D : va_G) (k : Nat → ClassId) (a : Nat → Nat) (M : ModelV) (y1 : Int32) (y2 : Int32) (r : Int32) (h : f_X5_reading M y1 y2 = some r) : Met l yX5_reading wsX5_reading rm_X5_reading (va_Pc [.ref (a 0), .int y1, .int y2] (RB D k (modelW k a M))) (QR (some (.int r))) 0 0 (fun _ => False) := by
  refine met_Ri (by decide) rfl (Nat.le_of_ble_eq_true rfl) ?_
  intro p e s m below meth c Q args ls hx hb hml hown hts hP hK hN hl hQ
  have hl : lv_has ls 3 [(0, .ref (a 0)), (1, .int y1), (2, .int y2)] := hl
  have hown : s.vm.findClass RX5 = some m.cls := hown
  unfold f_X5_reading at h
  have hiRX5 : ∀ w ∈ u_ws RX5 TX5 19, w ∈ wsX5_reading := by decide +kernel
  have hf29 := hts (.fieldLink RX5 29 "RainCellsModel" "readings" "[I") (by decide +kernel)
  refine lv_aload_n hx hb dX5_reading_0 rfl (lv_at hl 0 rfl) ?_
  refine lv_iload_n hx hb dX5_reading_1 rfl (lv_at hl 1 rfl) ?_
  obtain ⟨x1, h2, h⟩ := bd_s h
  refine cR_V (As := [.int y1]) (rest := []) (n := 1) (v := .int (b2i x1)) hx hb hml hown hts hK hN hl.1 (c_X5_isGauge l D k a M y1 x1 h2) gX5_reading_X5_isGauge rfl (by decide +kernel) ⟨⟨rfl, rfl⟩, by decide, by decide⟩ hP 0 5 rfl rfl rfl rfl rfl (Nat.le_of_ble_eq_true rfl) dX5_reading_2 ⟨Nat.zero_le _, Nat.zero_le _⟩ ?_
  refine lv_if_ne (tgt := 10) hx hb dX5_reading_5 (by decide) (fun c3 => ?_) (fun c3 => ?_)
  · have h := if_f h c3
    refine lv_iload_n hx hb dX5_reading_10 rfl (lv_at hl 2 rfl) ?_
    obtain ⟨x4, h5, h⟩ := bd_s h
    refine cR_S (As := [.int y2]) (rest := []) (n := 1) (v := .int (b2i x4)) hx hb hml hown hts hK hN hl.1 (c_X5_isDay l D k y2 x4 h5) gX5_reading_X5_isDay rfl (by decide +kernel) ⟨⟨rfl, rfl⟩, by decide, by decide⟩ va_P_nil rfl rfl (Nat.le_of_ble_eq_true rfl) dX5_reading_11 ⟨Nat.zero_le _, Nat.zero_le _⟩ ?_
    refine lv_if_eq (tgt := 31) hx hb dX5_reading_14 (by decide) (fun c6 => ?_) (fun c6 => ?_)
    · have h := if_t h c6
      refine lv_bipush (v := (-2)) hx hb dX5_reading_31 (by decide) ?_
      obtain rfl := Option.some.inj h
      exact hQ _ _ dX5_reading_33
    · have h := if_f h c6
      refine lv_aload_n hx hb dX5_reading_17 rfl (lv_at hl 0 rfl) ?_
      refine va_get (D := D) (ci := 5) (v := .ref (a 7)) (C := RX5) (T := TX5) (N := 19) hx hb hts hiRX5 hown hK hP 0 rfl rfl 7 (by decide) hf29 (fun _ h9 => h9) rfl dX5_reading_18 ?_
      refine lv_bipush (v := 64) hx hb dX5_reading_21 (by decide) ?_
      refine lv_iload_n hx hb dX5_reading_23 rfl (lv_at hl 1 rfl) ?_
      refine lv_imul hx hb dX5_reading_24 ?_
      refine lv_iload_n hx hb dX5_reading_25 rfl (lv_at hl 2 rfl) ?_
      refine lv_iadd hx hb dX5_reading_26 ?_
      obtain ⟨c7, h⟩ := gd_s h
      refine va_iald (D := D) hx hb hK hP 7 0 rfl rfl (ix_in c7) dX5_reading_27 ?_
      refine lv_goto (tgt := 33) hx hb dX5_reading_28 (by decide) ?_
      obtain rfl := Option.some.inj h
      exact hQ _ _ dX5_reading_33
  · have h := if_t h c3
    refine lv_iconst (v := (-1)) hx hb dX5_reading_8 (by decide) ?_
    obtain rfl := Option.some.inj h
    exact hQ _ _ dX5_reading_9

abbrev rm_X5_working : Room := { frames := 2, cells := 0, slots := 0, locals := 42 }
def f_X5_working (M : ModelV) (y1 : Int32) : Option (Int32) := (f_X5_isDay y1).bind (fun x1 => if (b2i x1) = 0 then (some (-2)) else ((f_X5_workingOn M y1).bind (fun x4 => some x4)))
set_option maxHeartbeats 4000000 in
set_option maxRecDepth 100000 in
theorem c_X5_working (l : Launch) (D : va_G) (k : Nat → ClassId) (a : Nat → Nat) (M : ModelV) (y1 : Int32) (r : Int32) (h : f_X5_working M y1 = some r) : Met l yX5_working wsX5_working rm_X5_working (va_Pc [.ref (a 0), .int y1] (RB D k (modelW k a M))) (QR (some (.int r))) 0 0 (fun _ => False) := by
  refine met_Ri (by decide) rfl (Nat.le_of_ble_eq_true rfl) ?_
  intro p e s m below meth c Q args ls hx hb hml hown hts hP hK hN hl hQ
  have hl : lv_has ls 2 [(0, .ref (a 0)), (1, .int y1)] := hl
  have hown : s.vm.findClass RX5 = some m.cls := hown
  unfold f_X5_working at h
  refine lv_iload_n hx hb dX5_working_0 rfl (lv_at hl 1 rfl) ?_
  obtain ⟨x1, h2, h⟩ := bd_s h
  refine cR_S (As := [.int y1]) (rest := []) (n := 1) (v := .int (b2i x1)) hx hb hml hown hts hK hN hl.1 (c_X5_isDay l D k y1 x1 h2) gX5_working_X5_isDay rfl (by decide +kernel) ⟨⟨rfl, rfl⟩, by decide, by decide⟩ va_P_nil rfl rfl (Nat.le_of_ble_eq_true rfl) dX5_working_1 ⟨Nat.zero_le _, Nat.zero_le _⟩ ?_
  refine lv_if_eq (tgt := 15) hx hb dX5_working_4 (by decide) (fun c3 => ?_) (fun c3 => ?_)
  · have h := if_t h c3
    refine lv_bipush (v := (-2)) hx hb dX5_working_15 (by decide) ?_
    obtain rfl := Option.some.inj h
    exact hQ _ _ dX5_working_17
  · have h := if_f h c3
    refine lv_aload_n hx hb dX5_working_7 rfl (lv_at hl 0 rfl) ?_
    refine lv_iload_n hx hb dX5_working_8 rfl (lv_at hl 1 rfl) ?_
    obtain ⟨x4, h5, h⟩ := bd_s h
    refine cR_V (As := [.int y1]) (rest := []) (n := 1) (v := .int x4) hx hb hml hown hts hK hN hl.1 (c_X5_workingOn l D k a M y1 x4 h5) gX5_working_X5_workingOn rfl (by decide +kernel) ⟨⟨rfl, rfl⟩, by decide, by decide⟩ hP 0 5 rfl rfl rfl rfl rfl (Nat.le_of_ble_eq_true rfl) dX5_working_9 ⟨Nat.zero_le _, Nat.zero_le _⟩ ?_
    refine lv_goto (tgt := 17) hx hb dX5_working_12 (by decide) ?_
    obtain rfl := Option.some.inj h
    exact hQ _ _ dX5_working_17
