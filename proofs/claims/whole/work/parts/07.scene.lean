/-! written by wip/whole/gen.py -/
abbrev rm_X1_rowHasPlots : Room := { frames := 0, cells := 0, slots := 0, locals := 0 }
def f_X1_rowHasPlots (S : SceneV) (y1 : Int32) : Option (Bool) := gd (ix y1 16) (gd (ix y1 16) (if (S.2.1 (y1 : Int32).toNatClampNeg) < (S.1 (y1 : Int32).toNatClampNeg) then (some false) else (some true)))
set_option maxHeartbeats 4000000 in
set_option maxRecDepth 100000 in
theorem c_X1_rowHasPlots (l : Launch) (D : va_G) (k : Nat → ClassId) (a : Nat → Nat) (S : SceneV) (y1 : Int32) (r : Bool) (h : f_X1_rowHasPlots S y1 = some r) : Met l yX1_rowHasPlots wsX1_rowHasPlots rm_X1_rowHasPlots (va_Pc [.ref (a 0), .int y1] (RB D k (sceneW k a S))) (QR (some (.int (b2i r)))) 0 0 (fun _ => False) := by
  refine met_Rz (by decide) rfl (Nat.le_of_ble_eq_true rfl) ?_
  intro p e s m below meth c Q args ls hx hb hml hown hts hP hK hN hl hQ
  have hl : lv_has ls 2 [(0, .ref (a 0)), (1, .int y1)] := hl
  have hown : s.vm.findClass RX1 = some m.cls := hown
  unfold f_X1_rowHasPlots at h
  have hiRX1 : ∀ w ∈ u_ws RX1 TX1 8, w ∈ wsX1_rowHasPlots := by decide +kernel
  have hf9 := hts (.fieldLink RX1 9 "RainCells$Scene" "rowFrom" "[I") (by decide +kernel)
  have hf15 := hts (.fieldLink RX1 15 "RainCells$Scene" "rowTo" "[I") (by decide +kernel)
  refine lv_aload_n hx hb dX1_rowHasPlots_0 rfl (lv_at hl 0 rfl) ?_
  refine va_get (D := D) (ci := 1) (v := .ref (a 1)) (C := RX1) (T := TX1) (N := 8) hx hb hts hiRX1 hown hK hP 0 rfl rfl 0 (by decide) hf9 (fun _ h9 => h9) rfl dX1_rowHasPlots_1 ?_
  refine lv_iload_n hx hb dX1_rowHasPlots_4 rfl (lv_at hl 1 rfl) ?_
  obtain ⟨c1, h⟩ := gd_s h
  refine va_iald (D := D) hx hb hK hP 1 0 rfl rfl (ix_in c1) dX1_rowHasPlots_5 ?_
  refine lv_aload_n hx hb dX1_rowHasPlots_6 rfl (lv_at hl 0 rfl) ?_
  refine va_get (D := D) (ci := 1) (v := .ref (a 2)) (C := RX1) (T := TX1) (N := 8) hx hb hts hiRX1 hown hK hP 0 rfl rfl 1 (by decide) hf15 (fun _ h9 => h9) rfl dX1_rowHasPlots_7 ?_
  refine lv_iload_n hx hb dX1_rowHasPlots_10 rfl (lv_at hl 1 rfl) ?_
  obtain ⟨c2, h⟩ := gd_s h
  refine va_iald (D := D) hx hb hK hP 2 0 rfl rfl (ix_in c2) dX1_rowHasPlots_11 ?_
  refine lv_icmp_gt (tgt := 19) hx hb dX1_rowHasPlots_12 (by decide) (fun c3 => ?_) (fun c3 => ?_)
  · have h := if_t h c3
    refine lv_iconst (v := 0) hx hb dX1_rowHasPlots_19 (by decide) ?_
    obtain rfl := Option.some.inj h
    exact hQ _ _ dX1_rowHasPlots_20
  · have h := if_f h c3
    refine lv_iconst (v := 1) hx hb dX1_rowHasPlots_15 (by decide) ?_
    refine lv_goto (tgt := 20) hx hb dX1_rowHasPlots_16 (by decide) ?_
    obtain rfl := Option.some.inj h
    exact hQ _ _ dX1_rowHasPlots_20

abbrev rm_X1_hasPlot : Room := { frames := 0, cells := 0, slots := 0, locals := 0 }
def f_X1_hasPlot (S : SceneV) (y1 : Int32) (y2 : Int32) : Option (Bool) := gd (ix y2 16) (if y1 < (S.1 (y2 : Int32).toNatClampNeg) then (some false) else (gd (ix y2 16) (if (S.2.1 (y2 : Int32).toNatClampNeg) < y1 then (some false) else (some true))))
set_option maxHeartbeats 4000000 in
set_option maxRecDepth 100000 in
theorem c_X1_hasPlot (l : Launch) (D : va_G) (k : Nat → ClassId) (a : Nat → Nat) (S : SceneV) (y1 : Int32) (y2 : Int32) (r : Bool) (h : f_X1_hasPlot S y1 y2 = some r) : Met l yX1_hasPlot wsX1_hasPlot rm_X1_hasPlot (va_Pc [.ref (a 0), .int y1, .int y2] (RB D k (sceneW k a S))) (QR (some (.int (b2i r)))) 0 0 (fun _ => False) := by
  refine met_Rz (by decide) rfl (Nat.le_of_ble_eq_true rfl) ?_
  intro p e s m below meth c Q args ls hx hb hml hown hts hP hK hN hl hQ
  have hl : lv_has ls 3 [(0, .ref (a 0)), (1, .int y1), (2, .int y2)] := hl
  have hown : s.vm.findClass RX1 = some m.cls := hown
  unfold f_X1_hasPlot at h
  have hiRX1 : ∀ w ∈ u_ws RX1 TX1 8, w ∈ wsX1_hasPlot := by decide +kernel
  have hf9 := hts (.fieldLink RX1 9 "RainCells$Scene" "rowFrom" "[I") (by decide +kernel)
  have hf15 := hts (.fieldLink RX1 15 "RainCells$Scene" "rowTo" "[I") (by decide +kernel)
  refine lv_iload_n hx hb dX1_hasPlot_0 rfl (lv_at hl 1 rfl) ?_
  refine lv_aload_n hx hb dX1_hasPlot_1 rfl (lv_at hl 0 rfl) ?_
  refine va_get (D := D) (ci := 1) (v := .ref (a 1)) (C := RX1) (T := TX1) (N := 8) hx hb hts hiRX1 hown hK hP 0 rfl rfl 0 (by decide) hf9 (fun _ h9 => h9) rfl dX1_hasPlot_2 ?_
  refine lv_iload_n hx hb dX1_hasPlot_5 rfl (lv_at hl 2 rfl) ?_
  obtain ⟨c1, h⟩ := gd_s h
  refine va_iald (D := D) hx hb hK hP 1 0 rfl rfl (ix_in c1) dX1_hasPlot_6 ?_
  refine lv_icmp_lt (tgt := 24) hx hb dX1_hasPlot_7 (by decide) (fun c2 => ?_) (fun c2 => ?_)
  · have h := if_t h c2
    refine lv_iconst (v := 0) hx hb dX1_hasPlot_24 (by decide) ?_
    obtain rfl := Option.some.inj h
    exact hQ _ _ dX1_hasPlot_25
  · have h := if_f h c2
    refine lv_iload_n hx hb dX1_hasPlot_10 rfl (lv_at hl 1 rfl) ?_
    refine lv_aload_n hx hb dX1_hasPlot_11 rfl (lv_at hl 0 rfl) ?_
    refine va_get (D := D) (ci := 1) (v := .ref (a 2)) (C := RX1) (T := TX1) (N := 8) hx hb hts hiRX1 hown hK hP 0 rfl rfl 1 (by decide) hf15 (fun _ h9 => h9) rfl dX1_hasPlot_12 ?_
    refine lv_iload_n hx hb dX1_hasPlot_15 rfl (lv_at hl 2 rfl) ?_
    obtain ⟨c3, h⟩ := gd_s h
    refine va_iald (D := D) hx hb hK hP 2 0 rfl rfl (ix_in c3) dX1_hasPlot_16 ?_
    refine lv_icmp_gt (tgt := 24) hx hb dX1_hasPlot_17 (by decide) (fun c4 => ?_) (fun c4 => ?_)
    · have h := if_t h c4
      refine lv_iconst (v := 0) hx hb dX1_hasPlot_24 (by decide) ?_
      obtain rfl := Option.some.inj h
      exact hQ _ _ dX1_hasPlot_25
    · have h := if_f h c4
      refine lv_iconst (v := 1) hx hb dX1_hasPlot_20 (by decide) ?_
      refine lv_goto (tgt := 25) hx hb dX1_hasPlot_21 (by decide) ?_
      obtain rfl := Option.some.inj h
      exact hQ _ _ dX1_hasPlot_25

abbrev rm_X1_plotCount : Room := { frames := 1, cells := 0, slots := 0, locals := 21 }
def f_X1_plotCount_L4 (S : SceneV) (z : Int32 × Int32) : Option ((Int32 × Int32) ⊕ (Int32)) := if 16 ≤ z.2 then (some (.inr z.1)) else ((f_X1_rowHasPlots S z.2).bind (fun x2 => (if (b2i x2) = 0 then (some z.1) else (gd (ix z.2 16) (gd (ix z.2 16) (some (z.1 + (((S.2.1 (z.2 : Int32).toNatClampNeg) - (S.1 (z.2 : Int32).toNatClampNeg)) + 1))))) : Option (Int32)).bind (fun x4 => some (.inl (x4, (z.2 + 1))))))
def f_X1_plotCount (S : SceneV) : Option (Int32) := (lp (f_X1_plotCount_L4 S) fu (0, 0)).bind (fun x1 => some x1)
set_option maxHeartbeats 4000000 in
set_option maxRecDepth 100000 in
theorem c_X1_plotCount (l : Launch) (D : va_G) (k : Nat → ClassId) (a : Nat → Nat) (S : SceneV) (r : Int32) (h : f_X1_plotCount S = some r) : Met l yX1_plotCount wsX1_plotCount rm_X1_plotCount (va_Pc [.ref (a 0)] (RB D k (sceneW k a S))) (QR (some (.int r))) 0 0 (fun _ => False) := by
  refine met_Ri (by decide) rfl (Nat.le_of_ble_eq_true rfl) ?_
  intro p e s m below meth c Q args ls hx hb hml hown hts hP hK hN hl hQ
  have hl : lv_has ls 3 [(0, .ref (a 0))] := hl
  have hown : s.vm.findClass RX1 = some m.cls := hown
  unfold f_X1_plotCount at h
  have hiRX1 : ∀ w ∈ u_ws RX1 TX1 8, w ∈ wsX1_plotCount := by decide +kernel
  have hf15 := hts (.fieldLink RX1 15 "RainCells$Scene" "rowTo" "[I") (by decide +kernel)
  have hf9 := hts (.fieldLink RX1 9 "RainCells$Scene" "rowFrom" "[I") (by decide +kernel)
  refine lv_iconst (v := 0) hx hb dX1_plotCount_0 (by decide) ?_
  refine lv_istore_n (lv' := [(1, .int 0), (0, .ref (a 0))]) hx hb dX1_plotCount_1 rfl hl (by decide) rfl (fun ls hl => ?_)
  refine lv_iconst (v := 0) hx hb dX1_plotCount_2 (by decide) ?_
  refine lv_istore_n (lv' := [(2, .int 0), (1, .int 0), (0, .ref (a 0))]) hx hb dX1_plotCount_3 rfl hl (by decide) rfl (fun ls hl => ?_)
  obtain ⟨x1, h2, h⟩ := bd_s h
  have K17 : ∀ (ls : Array Slot), lv_has ls 3 [(1, .int x1)] → W p l e rm_X1_plotCount s m args below meth c s.heap [] 0 0 Q (F0 m 42 ls []) := by
    intro ls hl
    refine lv_iload_n hx hb dX1_plotCount_42 rfl (lv_at hl 0 rfl) ?_
    obtain rfl := Option.some.inj h
    exact hQ _ _ dX1_plotCount_43
  refine lp_W (P := fun z3 => ∀ (ls : Array Slot), lv_has ls 3 [(0, .ref (a 0)), (1, .int z3.1), (2, .int z3.2)] → W p l e rm_X1_plotCount s m args below meth c s.heap [] 0 0 Q (F0 m 4 ls [])) (E := fun x1 => ∀ (ls : Array Slot), lv_has ls 3 [(1, .int x1)] → W p l e rm_X1_plotCount s m args below meth c s.heap [] 0 0 Q (F0 m 42 ls [])) (fun z3 xx5 hB4 kI6 kE7 => ?_) _ _ _ h2 K17 ls (lv_sub hl [2, 1, 0] rfl)
  intro ls hl
  unfold f_X1_plotCount_L4 at hB4
  refine lv_iload_n hx hb dX1_plotCount_4 rfl (lv_at hl 2 rfl) ?_
  refine lv_bipush (v := 16) hx hb dX1_plotCount_5 (by decide) ?_
  refine lv_icmp_ge (tgt := 42) hx hb dX1_plotCount_7 (by decide) (fun c8 => ?_) (fun c8 => ?_)
  · have hB4 := if_t hB4 c8
    exact kE7 _ (Option.some.inj hB4).symm ls (lv_sub hl [1] rfl)
  · have hB4 := if_f hB4 c8
    refine lv_aload_n hx hb dX1_plotCount_10 rfl (lv_at hl 0 rfl) ?_
    refine lv_iload_n hx hb dX1_plotCount_11 rfl (lv_at hl 2 rfl) ?_
    obtain ⟨x9, h10, hB4⟩ := bd_s hB4
    refine cR_V (As := [.int z3.2]) (rest := []) (n := 1) (v := .int (b2i x9)) hx hb hml hown hts hK hN hl.1 (c_X1_rowHasPlots l D k a S z3.2 x9 h10) gX1_plotCount_X1_rowHasPlots rfl (by decide +kernel) ⟨⟨rfl, rfl⟩, by decide, by decide⟩ hP 0 1 rfl rfl rfl rfl rfl (Nat.le_of_ble_eq_true rfl) dX1_plotCount_12 ⟨Nat.zero_le _, Nat.zero_le _⟩ ?_
    obtain ⟨x11, h12, hB4⟩ := bd_s hB4
    have K13 : ∀ (ls : Array Slot), lv_has ls 3 [(0, .ref (a 0)), (1, .int x11), (2, .int z3.2)] → W p l e rm_X1_plotCount s m args below meth c s.heap [] 0 0 Q (F0 m 36 ls []) := by
      intro ls hl
      refine lv_iinc (v := (z3.2 + 1)) (lv' := [(2, .int (z3.2 + 1)), (0, .ref (a 0)), (1, .int x11)]) hx hb dX1_plotCount_36 hl (k := 2) rfl rfl (by decide) rfl (fun ls hl => ?_)
      refine lv_goto (tgt := 4) hx hb dX1_plotCount_39 (by decide) ?_
      exact kI6 _ (Option.some.inj hB4).symm ls (lv_sub hl [1, 2, 0] rfl)
    refine lv_if_eq (tgt := 36) hx hb dX1_plotCount_15 (by decide) (fun c14 => ?_) (fun c14 => ?_)
    · have h12 := if_t h12 c14
      obtain rfl := Option.some.inj h12
      exact K13 ls (lv_sub hl [0, 1, 2] rfl)
    · have h12 := if_f h12 c14
      refine lv_iload_n hx hb dX1_plotCount_18 rfl (lv_at hl 1 rfl) ?_
      refine lv_aload_n hx hb dX1_plotCount_19 rfl (lv_at hl 0 rfl) ?_
      refine va_get (D := D) (ci := 1) (v := .ref (a 2)) (C := RX1) (T := TX1) (N := 8) hx hb hts hiRX1 hown hK hP 0 rfl rfl 1 (by decide) hf15 (fun _ h9 => h9) rfl dX1_plotCount_20 ?_
      refine lv_iload_n hx hb dX1_plotCount_23 rfl (lv_at hl 2 rfl) ?_
      obtain ⟨c15, h12⟩ := gd_s h12
      refine va_iald (D := D) hx hb hK hP 2 0 rfl rfl (ix_in c15) dX1_plotCount_24 ?_
      refine lv_aload_n hx hb dX1_plotCount_25 rfl (lv_at hl 0 rfl) ?_
      refine va_get (D := D) (ci := 1) (v := .ref (a 1)) (C := RX1) (T := TX1) (N := 8) hx hb hts hiRX1 hown hK hP 0 rfl rfl 0 (by decide) hf9 (fun _ h9 => h9) rfl dX1_plotCount_26 ?_
      refine lv_iload_n hx hb dX1_plotCount_29 rfl (lv_at hl 2 rfl) ?_
      obtain ⟨c16, h12⟩ := gd_s h12
      refine va_iald (D := D) hx hb hK hP 1 0 rfl rfl (ix_in c16) dX1_plotCount_30 ?_
      refine lv_isub hx hb dX1_plotCount_31 ?_
      refine lv_iconst (v := 1) hx hb dX1_plotCount_32 (by decide) ?_
      refine lv_iadd hx hb dX1_plotCount_33 ?_
      refine lv_iadd hx hb dX1_plotCount_34 ?_
      refine lv_istore_n (lv' := [(1, .int (z3.1 + (((S.2.1 (z3.2 : Int32).toNatClampNeg) - (S.1 (z3.2 : Int32).toNatClampNeg)) + 1))), (0, .ref (a 0)), (2, .int z3.2)]) hx hb dX1_plotCount_35 rfl hl (by decide) rfl (fun ls hl => ?_)
      obtain rfl := Option.some.inj h12
      exact K13 ls (lv_sub hl [1, 0, 2] rfl)

abbrev rm_X1_knows : Room := { frames := 0, cells := 0, slots := 0, locals := 0 }
def f_X1_knows (S : SceneV) (y1 : Int32) : Option (Bool) := if y1 < 0 then (some false) else (if S.2.2.1 ≤ y1 then (some false) else (some true))
set_option maxHeartbeats 4000000 in
set_option maxRecDepth 100000 in
theorem c_X1_knows (l : Launch) (D : va_G) (k : Nat → ClassId) (a : Nat → Nat) (S : SceneV) (y1 : Int32) (r : Bool) (h : f_X1_knows S y1 = some r) : Met l yX1_knows wsX1_knows rm_X1_knows (va_Pc [.ref (a 0), .int y1] (RB D k (sceneW k a S))) (QR (some (.int (b2i r)))) 0 0 (fun _ => False) := by
  refine met_Rz (by decide) rfl (Nat.le_of_ble_eq_true rfl) ?_
  intro p e s m below meth c Q args ls hx hb hml hown hts hP hK hN hl hQ
  have hl : lv_has ls 2 [(0, .ref (a 0)), (1, .int y1)] := hl
  have hown : s.vm.findClass RX1 = some m.cls := hown
  unfold f_X1_knows at h
  have hiRX1 : ∀ w ∈ u_ws RX1 TX1 8, w ∈ wsX1_knows := by decide +kernel
  have hf18 := hts (.fieldLink RX1 18 "RainCells$Scene" "gauges" "I") (by decide +kernel)
  refine lv_iload_n hx hb dX1_knows_0 rfl (lv_at hl 1 rfl) ?_
  refine lv_if_lt (tgt := 16) hx hb dX1_knows_1 (by decide) (fun c1 => ?_) (fun c1 => ?_)
  · have h := if_t h c1
    refine lv_iconst (v := 0) hx hb dX1_knows_16 (by decide) ?_
    obtain rfl := Option.some.inj h
    exact hQ _ _ dX1_knows_17
  · have h := if_f h c1
    refine lv_iload_n hx hb dX1_knows_4 rfl (lv_at hl 1 rfl) ?_
    refine lv_aload_n hx hb dX1_knows_5 rfl (lv_at hl 0 rfl) ?_
    refine va_get (D := D) (ci := 1) (v := .int S.2.2.1) (C := RX1) (T := TX1) (N := 8) hx hb hts hiRX1 hown hK hP 0 rfl rfl 2 (by decide) hf18 (fun _ h9 => h9) rfl dX1_knows_6 ?_
    refine lv_icmp_ge (tgt := 16) hx hb dX1_knows_9 (by decide) (fun c2 => ?_) (fun c2 => ?_)
    · have h := if_t h c2
      refine lv_iconst (v := 0) hx hb dX1_knows_16 (by decide) ?_
      obtain rfl := Option.some.inj h
      exact hQ _ _ dX1_knows_17
    · have h := if_f h c2
      refine lv_iconst (v := 1) hx hb dX1_knows_12 (by decide) ?_
      refine lv_goto (tgt := 17) hx hb dX1_knows_13 (by decide) ?_
      obtain rfl := Option.some.inj h
      exact hQ _ _ dX1_knows_17

abbrev rm_X1_gaugeAt : Room := { frames := 0, cells := 0, slots := 0, locals := 0 }
def f_X1_gaugeAt_L2 (S : SceneV) (y1 : Int32) (y2 : Int32) (z : Int32) : Option ((Int32) ⊕ ((Unit) ⊕ (Int32))) := if S.2.2.1 ≤ z then (some (.inr (.inl ()))) else (gd (ix z 8) (if (S.2.2.2.1 (z : Int32).toNatClampNeg) = y1 then (gd (ix z 8) (if (S.2.2.2.2.1 (z : Int32).toNatClampNeg) = y2 then (some (.inr (.inr z))) else (some (.inl (z + 1))))) else (some (.inl (z + 1)))))
def f_X1_gaugeAt (S : SceneV) (y1 : Int32) (y2 : Int32) : Option (Int32) := (lp (f_X1_gaugeAt_L2 S y1 y2) fu 0).bind (fun x1 => match x1 with | .inl x1_0 => some (-1) | .inr x1_1 => some x1_1)
set_option maxHeartbeats 4000000 in
set_option maxRecDepth 100000 in
theorem c_X1_gaugeAt (l : Launch) (D : va_G) (k : Nat → ClassId) (a : Nat → Nat) (S : SceneV) (y1 : Int32) (y2 : Int32) (r : Int32) (h : f_X1_gaugeAt S y1 y2 = some r) : Met l yX1_gaugeAt wsX1_gaugeAt rm_X1_gaugeAt (va_Pc [.ref (a 0), .int y1, .int y2] (RB D k (sceneW k a S))) (QR (some (.int r))) 0 0 (fun _ => False) := by
  refine met_Ri (by decide) rfl (Nat.le_of_ble_eq_true rfl) ?_
  intro p e s m below meth c Q args ls hx hb hml hown hts hP hK hN hl hQ
  have hl : lv_has ls 4 [(0, .ref (a 0)), (1, .int y1), (2, .int y2)] := hl
  have hown : s.vm.findClass RX1 = some m.cls := hown
  unfold f_X1_gaugeAt at h
  have hiRX1 : ∀ w ∈ u_ws RX1 TX1 8, w ∈ wsX1_gaugeAt := by decide +kernel
  have hf18 := hts (.fieldLink RX1 18 "RainCells$Scene" "gauges" "I") (by decide +kernel)
  have hf22 := hts (.fieldLink RX1 22 "RainCells$Scene" "placeX" "[I") (by decide +kernel)
  have hf25 := hts (.fieldLink RX1 25 "RainCells$Scene" "placeY" "[I") (by decide +kernel)
  refine lv_iconst (v := 0) hx hb dX1_gaugeAt_0 (by decide) ?_
  refine lv_istore_n (lv' := [(3, .int 0), (0, .ref (a 0)), (1, .int y1), (2, .int y2)]) hx hb dX1_gaugeAt_1 rfl hl (by decide) rfl (fun ls hl => ?_)
  obtain ⟨x1, h2, h⟩ := bd_s h
  have K13 : (fun x1 => Sum.casesOn x1 (fun x1_0 => ∀ (ls : Array Slot), lv_has ls 4 [] → W p l e rm_X1_gaugeAt s m args below meth c s.heap [] 0 0 Q (F0 m 38 ls [])) (fun x1_1 => ∀ (ls : Array Slot), lv_has ls 4 [(3, .int x1_1)] → W p l e rm_X1_gaugeAt s m args below meth c s.heap [] 0 0 Q (F0 m 30 ls []))) x1 := by
    cases x1 with
    | inl x1_0 =>
      intro ls hl
      refine lv_iconst (v := (-1)) hx hb dX1_gaugeAt_38 (by decide) ?_
      obtain rfl := Option.some.inj h
      exact hQ _ _ dX1_gaugeAt_39
    | inr x1_1 =>
      intro ls hl
      refine lv_iload_n hx hb dX1_gaugeAt_30 rfl (lv_at hl 0 rfl) ?_
      obtain rfl := Option.some.inj h
      exact hQ _ _ dX1_gaugeAt_31
  refine lp_W (P := fun z3 => ∀ (ls : Array Slot), lv_has ls 4 [(0, .ref (a 0)), (1, .int y1), (2, .int y2), (3, .int z3)] → W p l e rm_X1_gaugeAt s m args below meth c s.heap [] 0 0 Q (F0 m 2 ls [])) (E := fun x1 => Sum.casesOn x1 (fun x1_0 => ∀ (ls : Array Slot), lv_has ls 4 [] → W p l e rm_X1_gaugeAt s m args below meth c s.heap [] 0 0 Q (F0 m 38 ls [])) (fun x1_1 => ∀ (ls : Array Slot), lv_has ls 4 [(3, .int x1_1)] → W p l e rm_X1_gaugeAt s m args below meth c s.heap [] 0 0 Q (F0 m 30 ls []))) (fun z3 xx5 hB4 kI6 kE7 => ?_) _ _ _ h2 K13 ls (lv_sub hl [1, 2, 3, 0] rfl)
  intro ls hl
  unfold f_X1_gaugeAt_L2 at hB4
  refine lv_iload_n hx hb dX1_gaugeAt_2 rfl (lv_at hl 3 rfl) ?_
  refine lv_aload_n hx hb dX1_gaugeAt_3 rfl (lv_at hl 0 rfl) ?_
  refine va_get (D := D) (ci := 1) (v := .int S.2.2.1) (C := RX1) (T := TX1) (N := 8) hx hb hts hiRX1 hown hK hP 0 rfl rfl 2 (by decide) hf18 (fun _ h9 => h9) rfl dX1_gaugeAt_4 ?_
  refine lv_icmp_ge (tgt := 38) hx hb dX1_gaugeAt_7 (by decide) (fun c8 => ?_) (fun c8 => ?_)
  · have hB4 := if_t hB4 c8
    exact kE7 _ (Option.some.inj hB4).symm ls (lv_sub hl [] rfl)
  · have hB4 := if_f hB4 c8
    refine lv_aload_n hx hb dX1_gaugeAt_10 rfl (lv_at hl 0 rfl) ?_
    refine va_get (D := D) (ci := 1) (v := .ref (a 3)) (C := RX1) (T := TX1) (N := 8) hx hb hts hiRX1 hown hK hP 0 rfl rfl 3 (by decide) hf22 (fun _ h9 => h9) rfl dX1_gaugeAt_11 ?_
    refine lv_iload_n hx hb dX1_gaugeAt_14 rfl (lv_at hl 3 rfl) ?_
    obtain ⟨c9, hB4⟩ := gd_s hB4
    refine va_iald (D := D) hx hb hK hP 3 0 rfl rfl (ix_in c9) dX1_gaugeAt_15 ?_
    refine lv_iload_n hx hb dX1_gaugeAt_16 rfl (lv_at hl 1 rfl) ?_
    refine lv_icmp_ne (tgt := 32) hx hb dX1_gaugeAt_17 (by decide) (fun c10 => ?_) (fun c10 => ?_)
    · have hB4 := if_f hB4 c10
      refine lv_iinc (v := (z3 + 1)) (lv' := [(3, .int (z3 + 1)), (0, .ref (a 0)), (1, .int y1), (2, .int y2)]) hx hb dX1_gaugeAt_32 hl (k := 3) rfl rfl (by decide) rfl (fun ls hl => ?_)
      refine lv_goto (tgt := 2) hx hb dX1_gaugeAt_35 (by decide) ?_
      exact kI6 _ (Option.some.inj hB4).symm ls (lv_sub hl [1, 2, 3, 0] rfl)
    · have hB4 := if_t hB4 c10
      refine lv_aload_n hx hb dX1_gaugeAt_20 rfl (lv_at hl 0 rfl) ?_
      refine va_get (D := D) (ci := 1) (v := .ref (a 4)) (C := RX1) (T := TX1) (N := 8) hx hb hts hiRX1 hown hK hP 0 rfl rfl 4 (by decide) hf25 (fun _ h9 => h9) rfl dX1_gaugeAt_21 ?_
      refine lv_iload_n hx hb dX1_gaugeAt_24 rfl (lv_at hl 3 rfl) ?_
      obtain ⟨c11, hB4⟩ := gd_s hB4
      refine va_iald (D := D) hx hb hK hP 4 0 rfl rfl (ix_in c11) dX1_gaugeAt_25 ?_
      refine lv_iload_n hx hb dX1_gaugeAt_26 rfl (lv_at hl 2 rfl) ?_
      refine lv_icmp_ne (tgt := 32) hx hb dX1_gaugeAt_27 (by decide) (fun c12 => ?_) (fun c12 => ?_)
      · have hB4 := if_f hB4 c12
        refine lv_iinc (v := (z3 + 1)) (lv' := [(3, .int (z3 + 1)), (0, .ref (a 0)), (1, .int y1), (2, .int y2)]) hx hb dX1_gaugeAt_32 hl (k := 3) rfl rfl (by decide) rfl (fun ls hl => ?_)
        refine lv_goto (tgt := 2) hx hb dX1_gaugeAt_35 (by decide) ?_
        exact kI6 _ (Option.some.inj hB4).symm ls (lv_sub hl [1, 2, 3, 0] rfl)
      · have hB4 := if_t hB4 c12
        exact kE7 _ (Option.some.inj hB4).symm ls (lv_sub hl [3] rfl)

abbrev rm_X1_farFrom : Room := { frames := 0, cells := 0, slots := 0, locals := 0 }
def f_X1_farFrom (S : SceneV) (y1 : Int32) (y2 : Int32) (y3 : Int32) : Option (Int32) := gd (ix y1 8) (gd (ix y1 8) (some (((y2 - (S.2.2.2.1 (y1 : Int32).toNatClampNeg)) * (y2 - (S.2.2.2.1 (y1 : Int32).toNatClampNeg))) + ((y3 - (S.2.2.2.2.1 (y1 : Int32).toNatClampNeg)) * (y3 - (S.2.2.2.2.1 (y1 : Int32).toNatClampNeg))))))
set_option maxHeartbeats 4000000 in
set_option maxRecDepth 100000 in
theorem c_X1_farFrom (l : Launch) (D : va_G) (k : Nat → ClassId) (a : Nat → Nat) (S : SceneV) (y1 : Int32) (y2 : Int32) (y3 : Int32) (r : Int32) (h : f_X1_farFrom S y1 y2 y3 = some r) : Met l yX1_farFrom wsX1_farFrom rm_X1_farFrom (va_Pc [.ref (a 0), .int y1, .int y2, .int y3] (RB D k (sceneW k a S))) (QR (some (.int r))) 0 0 (fun _ => False) := by
  refine met_Ri (by decide) rfl (Nat.le_of_ble_eq_true rfl) ?_
  intro p e s m below meth c Q args ls hx hb hml hown hts hP hK hN hl hQ
  have hl : lv_has ls 6 [(0, .ref (a 0)), (1, .int y1), (2, .int y2), (3, .int y3)] := hl
  have hown : s.vm.findClass RX1 = some m.cls := hown
  unfold f_X1_farFrom at h
  have hiRX1 : ∀ w ∈ u_ws RX1 TX1 8, w ∈ wsX1_farFrom := by decide +kernel
  have hf22 := hts (.fieldLink RX1 22 "RainCells$Scene" "placeX" "[I") (by decide +kernel)
  have hf25 := hts (.fieldLink RX1 25 "RainCells$Scene" "placeY" "[I") (by decide +kernel)
  refine lv_iload_n hx hb dX1_farFrom_0 rfl (lv_at hl 2 rfl) ?_
  refine lv_aload_n hx hb dX1_farFrom_1 rfl (lv_at hl 0 rfl) ?_
  refine va_get (D := D) (ci := 1) (v := .ref (a 3)) (C := RX1) (T := TX1) (N := 8) hx hb hts hiRX1 hown hK hP 0 rfl rfl 3 (by decide) hf22 (fun _ h9 => h9) rfl dX1_farFrom_2 ?_
  refine lv_iload_n hx hb dX1_farFrom_5 rfl (lv_at hl 1 rfl) ?_
  obtain ⟨c1, h⟩ := gd_s h
  refine va_iald (D := D) hx hb hK hP 3 0 rfl rfl (ix_in c1) dX1_farFrom_6 ?_
  refine lv_isub hx hb dX1_farFrom_7 ?_
  refine lv_istore (lv' := [(4, .int (y2 - (S.2.2.2.1 (y1 : Int32).toNatClampNeg))), (0, .ref (a 0)), (1, .int y1), (2, .int y2), (3, .int y3)]) hx hb dX1_farFrom_8 hl (by decide) rfl (fun ls hl => ?_)
  refine lv_iload_n hx hb dX1_farFrom_10 rfl (lv_at hl 4 rfl) ?_
  refine lv_aload_n hx hb dX1_farFrom_11 rfl (lv_at hl 1 rfl) ?_
  refine va_get (D := D) (ci := 1) (v := .ref (a 4)) (C := RX1) (T := TX1) (N := 8) hx hb hts hiRX1 hown hK hP 0 rfl rfl 4 (by decide) hf25 (fun _ h9 => h9) rfl dX1_farFrom_12 ?_
  refine lv_iload_n hx hb dX1_farFrom_15 rfl (lv_at hl 2 rfl) ?_
  obtain ⟨c2, h⟩ := gd_s h
  refine va_iald (D := D) hx hb hK hP 4 0 rfl rfl (ix_in c2) dX1_farFrom_16 ?_
  refine lv_isub hx hb dX1_farFrom_17 ?_
  refine lv_istore (lv' := [(5, .int (y3 - (S.2.2.2.2.1 (y1 : Int32).toNatClampNeg))), (4, .int (y2 - (S.2.2.2.1 (y1 : Int32).toNatClampNeg))), (0, .ref (a 0)), (1, .int y1), (2, .int y2), (3, .int y3)]) hx hb dX1_farFrom_18 hl (by decide) rfl (fun ls hl => ?_)
  refine lv_iload hx hb dX1_farFrom_20 (lv_at hl 1 rfl) ?_
  refine lv_iload hx hb dX1_farFrom_22 (lv_at hl 1 rfl) ?_
  refine lv_imul hx hb dX1_farFrom_24 ?_
  refine lv_iload hx hb dX1_farFrom_25 (lv_at hl 0 rfl) ?_
  refine lv_iload hx hb dX1_farFrom_27 (lv_at hl 0 rfl) ?_
  refine lv_imul hx hb dX1_farFrom_29 ?_
  refine lv_iadd hx hb dX1_farFrom_30 ?_
  obtain rfl := Option.some.inj h
  exact hQ _ _ dX1_farFrom_31

abbrev rm_X1_daysOut : Room := { frames := 1, cells := 0, slots := 0, locals := 21 }
def f_X1_daysOut (S : SceneV) (y1 : Int32) : Option (Int32) := gd (ix y1 8) ((f_J13_bitCount_95d88 (S.2.2.2.2.2.2.1 (y1 : Int32).toNatClampNeg)).bind (fun x2 => some x2))
set_option maxHeartbeats 4000000 in
set_option maxRecDepth 100000 in
theorem c_X1_daysOut (l : Launch) (D : va_G) (k : Nat → ClassId) (a : Nat → Nat) (S : SceneV) (y1 : Int32) (r : Int32) (h : f_X1_daysOut S y1 = some r) : Met l yX1_daysOut wsX1_daysOut rm_X1_daysOut (va_Pc [.ref (a 0), .int y1] (RB D k (sceneW k a S))) (QR (some (.int r))) 0 0 (fun _ => False) := by
  refine met_Ri (by decide) rfl (Nat.le_of_ble_eq_true rfl) ?_
  intro p e s m below meth c Q args ls hx hb hml hown hts hP hK hN hl hQ
  have hl : lv_has ls 2 [(0, .ref (a 0)), (1, .int y1)] := hl
  have hown : s.vm.findClass RX1 = some m.cls := hown
  unfold f_X1_daysOut at h
  have hiRX1 : ∀ w ∈ u_ws RX1 TX1 8, w ∈ wsX1_daysOut := by decide +kernel
  have hf31 := hts (.fieldLink RX1 31 "RainCells$Scene" "out" "[J") (by decide +kernel)
  refine lv_aload_n hx hb dX1_daysOut_0 rfl (lv_at hl 0 rfl) ?_
  refine va_get (D := D) (ci := 1) (v := .ref (a 6)) (C := RX1) (T := TX1) (N := 8) hx hb hts hiRX1 hown hK hP 0 rfl rfl 6 (by decide) hf31 (fun _ h9 => h9) rfl dX1_daysOut_1 ?_
  refine lv_iload_n hx hb dX1_daysOut_4 rfl (lv_at hl 1 rfl) ?_
  obtain ⟨c1, h⟩ := gd_s h
  refine va_lald (D := D) hx hb hK hP 6 1 rfl rfl (ix_in c1) dX1_daysOut_5 ?_
  obtain ⟨x2, h3, h⟩ := bd_s h
  refine cR_S (As := [.long (S.2.2.2.2.2.2.1 (y1 : Int32).toNatClampNeg)]) (rest := []) (n := 1) (v := .int x2) hx hb hml hown hts hK hN hl.1 (c_J13_bitCount_95d88 l D k (S.2.2.2.2.2.2.1 (y1 : Int32).toNatClampNeg) x2 h3) gX1_daysOut_J13_bitCount_95d88 rfl (by decide +kernel) ⟨⟨rfl, rfl⟩, by decide, by decide⟩ va_P_nil rfl rfl (Nat.le_of_ble_eq_true rfl) dX1_daysOut_6 ⟨Nat.zero_le _, Nat.zero_le _⟩ ?_
  obtain rfl := Option.some.inj h
  exact hQ _ _ dX1_daysOut_9

abbrev rm_X1_readingOf : Room := { frames := 0, cells := 0, slots := 0, locals := 0 }
def f_X1_readingOf (S : SceneV) (y1 : Int32) (y2 : Int32) : Option (Int32) := gd (ix ((y1 * 64) + y2) 512) (some (S.2.2.2.2.2.2.2 (((y1 * 64) + y2) : Int32).toNatClampNeg))
set_option maxHeartbeats 4000000 in
set_option maxRecDepth 100000 in
theorem c_X1_readingOf (l : Launch) (D : va_G) (k : Nat → ClassId) (a : Nat → Nat) (S : SceneV) (y1 : Int32) (y2 : Int32) (r : Int32) (h : f_X1_readingOf S y1 y2 = some r) : Met l yX1_readingOf wsX1_readingOf rm_X1_readingOf (va_Pc [.ref (a 0), .int y1, .int y2] (RB D k (sceneW k a S))) (QR (some (.int r))) 0 0 (fun _ => False) := by
  refine met_Ri (by decide) rfl (Nat.le_of_ble_eq_true rfl) ?_
  intro p e s m below meth c Q args ls hx hb hml hown hts hP hK hN hl hQ
  have hl : lv_has ls 3 [(0, .ref (a 0)), (1, .int y1), (2, .int y2)] := hl
  have hown : s.vm.findClass RX1 = some m.cls := hown
  unfold f_X1_readingOf at h
  have hiRX1 : ∀ w ∈ u_ws RX1 TX1 8, w ∈ wsX1_readingOf := by decide +kernel
  have hf35 := hts (.fieldLink RX1 35 "RainCells$Scene" "readings" "[I") (by decide +kernel)
  refine lv_aload_n hx hb dX1_readingOf_0 rfl (lv_at hl 0 rfl) ?_
  refine va_get (D := D) (ci := 1) (v := .ref (a 7)) (C := RX1) (T := TX1) (N := 8) hx hb hts hiRX1 hown hK hP 0 rfl rfl 7 (by decide) hf35 (fun _ h9 => h9) rfl dX1_readingOf_1 ?_
  refine lv_iload_n hx hb dX1_readingOf_4 rfl (lv_at hl 1 rfl) ?_
  refine lv_bipush (v := 64) hx hb dX1_readingOf_5 (by decide) ?_
  refine lv_imul hx hb dX1_readingOf_7 ?_
  refine lv_iload_n hx hb dX1_readingOf_8 rfl (lv_at hl 2 rfl) ?_
  refine lv_iadd hx hb dX1_readingOf_9 ?_
  obtain ⟨c1, h⟩ := gd_s h
  refine va_iald (D := D) hx hb hK hP 7 0 rfl rfl (ix_in c1) dX1_readingOf_10 ?_
  obtain rfl := Option.some.inj h
  exact hQ _ _ dX1_readingOf_11

abbrev rm_X1_daysRead : Room := { frames := 1, cells := 0, slots := 0, locals := 22 }
def f_X1_daysRead_L4 (S : SceneV) (y1 : Int32) (z : Int32 × Int32) : Option ((Int32 × Int32) ⊕ (Int32)) := if 64 ≤ z.2 then (some (.inr z.1)) else ((f_X1_readingOf S y1 z.2).bind (fun x2 => (if x2 = (-6) then (some z.1) else (some (z.1 + 1)) : Option (Int32)).bind (fun x4 => some (.inl (x4, (z.2 + 1))))))
def f_X1_daysRead (S : SceneV) (y1 : Int32) : Option (Int32) := (lp (f_X1_daysRead_L4 S y1) fu (0, 0)).bind (fun x1 => some x1)
set_option maxHeartbeats 4000000 in
set_option maxRecDepth 100000 in
theorem c_X1_daysRead (l : Launch) (D : va_G) (k : Nat → ClassId) (a : Nat → Nat) (S : SceneV) (y1 : Int32) (r : Int32) (h : f_X1_daysRead S y1 = some r) : Met l yX1_daysRead wsX1_daysRead rm_X1_daysRead (va_Pc [.ref (a 0), .int y1] (RB D k (sceneW k a S))) (QR (some (.int r))) 0 0 (fun _ => False) := by
  refine met_Ri (by decide) rfl (Nat.le_of_ble_eq_true rfl) ?_
  intro p e s m below meth c Q args ls hx hb hml hown hts hP hK hN hl hQ
  have hl : lv_has ls 4 [(0, .ref (a 0)), (1, .int y1)] := hl
  have hown : s.vm.findClass RX1 = some m.cls := hown
  unfold f_X1_daysRead at h
  refine lv_iconst (v := 0) hx hb dX1_daysRead_0 (by decide) ?_
  refine lv_istore_n (lv' := [(2, .int 0), (0, .ref (a 0)), (1, .int y1)]) hx hb dX1_daysRead_1 rfl hl (by decide) rfl (fun ls hl => ?_)
  refine lv_iconst (v := 0) hx hb dX1_daysRead_2 (by decide) ?_
  refine lv_istore_n (lv' := [(3, .int 0), (2, .int 0), (0, .ref (a 0)), (1, .int y1)]) hx hb dX1_daysRead_3 rfl hl (by decide) rfl (fun ls hl => ?_)
  obtain ⟨x1, h2, h⟩ := bd_s h
  have K15 : ∀ (ls : Array Slot), lv_has ls 4 [(2, .int x1)] → W p l e rm_X1_daysRead s m args below meth c s.heap [] 0 0 Q (F0 m 30 ls []) := by
    intro ls hl
    refine lv_iload_n hx hb dX1_daysRead_30 rfl (lv_at hl 0 rfl) ?_
    obtain rfl := Option.some.inj h
    exact hQ _ _ dX1_daysRead_31
  refine lp_W (P := fun z3 => ∀ (ls : Array Slot), lv_has ls 4 [(0, .ref (a 0)), (1, .int y1), (2, .int z3.1), (3, .int z3.2)] → W p l e rm_X1_daysRead s m args below meth c s.heap [] 0 0 Q (F0 m 4 ls [])) (E := fun x1 => ∀ (ls : Array Slot), lv_has ls 4 [(2, .int x1)] → W p l e rm_X1_daysRead s m args below meth c s.heap [] 0 0 Q (F0 m 30 ls [])) (fun z3 xx5 hB4 kI6 kE7 => ?_) _ _ _ h2 K15 ls (lv_sub hl [2, 3, 1, 0] rfl)
  intro ls hl
  unfold f_X1_daysRead_L4 at hB4
  refine lv_iload_n hx hb dX1_daysRead_4 rfl (lv_at hl 3 rfl) ?_
  refine lv_bipush (v := 64) hx hb dX1_daysRead_5 (by decide) ?_
  refine lv_icmp_ge (tgt := 30) hx hb dX1_daysRead_7 (by decide) (fun c8 => ?_) (fun c8 => ?_)
  · have hB4 := if_t hB4 c8
    exact kE7 _ (Option.some.inj hB4).symm ls (lv_sub hl [2] rfl)
  · have hB4 := if_f hB4 c8
    refine lv_aload_n hx hb dX1_daysRead_10 rfl (lv_at hl 0 rfl) ?_
    refine lv_iload_n hx hb dX1_daysRead_11 rfl (lv_at hl 1 rfl) ?_
    refine lv_iload_n hx hb dX1_daysRead_12 rfl (lv_at hl 3 rfl) ?_
    obtain ⟨x9, h10, hB4⟩ := bd_s hB4
    refine cR_V (As := [.int y1, .int z3.2]) (rest := []) (n := 2) (v := .int x9) hx hb hml hown hts hK hN hl.1 (c_X1_readingOf l D k a S y1 z3.2 x9 h10) gX1_daysRead_X1_readingOf rfl (by decide +kernel) ⟨⟨rfl, rfl⟩, by decide, by decide⟩ hP 0 1 rfl rfl rfl rfl rfl (Nat.le_of_ble_eq_true rfl) dX1_daysRead_13 ⟨Nat.zero_le _, Nat.zero_le _⟩ ?_
    refine lv_bipush (v := (-6)) hx hb dX1_daysRead_16 (by decide) ?_
    obtain ⟨x11, h12, hB4⟩ := bd_s hB4
    have K13 : ∀ (ls : Array Slot), lv_has ls 4 [(0, .ref (a 0)), (1, .int y1), (2, .int x11), (3, .int z3.2)] → W p l e rm_X1_daysRead s m args below meth c s.heap [] 0 0 Q (F0 m 24 ls []) := by
      intro ls hl
      refine lv_iinc (v := (z3.2 + 1)) (lv' := [(3, .int (z3.2 + 1)), (0, .ref (a 0)), (1, .int y1), (2, .int x11)]) hx hb dX1_daysRead_24 hl (k := 3) rfl rfl (by decide) rfl (fun ls hl => ?_)
      refine lv_goto (tgt := 4) hx hb dX1_daysRead_27 (by decide) ?_
      exact kI6 _ (Option.some.inj hB4).symm ls (lv_sub hl [1, 2, 3, 0] rfl)
    refine lv_icmp_eq (tgt := 24) hx hb dX1_daysRead_18 (by decide) (fun c14 => ?_) (fun c14 => ?_)
    · have h12 := if_t h12 c14
      obtain rfl := Option.some.inj h12
      exact K13 ls (lv_sub hl [0, 1, 2, 3] rfl)
    · have h12 := if_f h12 c14
      refine lv_iinc (v := (z3.1 + 1)) (lv' := [(2, .int (z3.1 + 1)), (0, .ref (a 0)), (1, .int y1), (3, .int z3.2)]) hx hb dX1_daysRead_21 hl (k := 2) rfl rfl (by decide) rfl (fun ls hl => ?_)
      obtain rfl := Option.some.inj h12
      exact K13 ls (lv_sub hl [1, 2, 0, 3] rfl)

abbrev rm_X1_workingOn : Room := { frames := 1, cells := 0, slots := 0, locals := 22 }
def f_X1_workingOn_L4 (S : SceneV) (y1 : Int32) (z : Int32 × Int32) : Option ((Int32 × Int32) ⊕ (Int32)) := if S.2.2.1 ≤ z.2 then (some (.inr z.1)) else (gd (ix z.2 8) ((if (lg_cmp ((S.2.2.2.2.2.2.1 (z.2 : Int32).toNatClampNeg) &&& ((1 : Int64) <<< ((y1 : Int32).toInt64 &&& 63))) (0 : Int64)) = 0 then (some 0) else (some 1) : Option (Int32)).bind (fun x3 => (if x3 = 0 then ((f_X1_readingOf S z.2 y1).bind (fun x10 => if x10 = (-6) then (some z.1) else ((f_X4_with z.1 z.2).bind (fun x13 => some x13)))) else (some z.1) : Option (Int32)).bind (fun x6 => some (.inl (x6, (z.2 + 1)))))))
def f_X1_workingOn (S : SceneV) (y1 : Int32) : Option (Int32) := (lp (f_X1_workingOn_L4 S y1) fu (0, 0)).bind (fun x1 => some x1)
set_option maxHeartbeats 4000000 in
set_option maxRecDepth 100000 in
theorem c_X1_workingOn (l : Launch) (D : va_G) (k : Nat → ClassId) (a : Nat → Nat) (S : SceneV) (y1 : Int32) (r : Int32) (h : f_X1_workingOn S y1 = some r) : Met l yX1_workingOn wsX1_workingOn rm_X1_workingOn (va_Pc [.ref (a 0), .int y1] (RB D k (sceneW k a S))) (QR (some (.int r))) 0 0 (fun _ => False) := by
  refine met_Ri (by decide) rfl (Nat.le_of_ble_eq_true rfl) ?_
  intro p e s m below meth c Q args ls hx hb hml hown hts hP hK hN hl hQ
  have hl : lv_has ls 5 [(0, .ref (a 0)), (1, .int y1)] := hl
  have hown : s.vm.findClass RX1 = some m.cls := hown
  unfold f_X1_workingOn at h
  have hiRX1 : ∀ w ∈ u_ws RX1 TX1 8, w ∈ wsX1_workingOn := by decide +kernel
  have hf18 := hts (.fieldLink RX1 18 "RainCells$Scene" "gauges" "I") (by decide +kernel)
  have hf31 := hts (.fieldLink RX1 31 "RainCells$Scene" "out" "[J") (by decide +kernel)
  refine lv_iconst (v := 0) hx hb dX1_workingOn_0 (by decide) ?_
  refine lv_istore_n (lv' := [(2, .int 0), (0, .ref (a 0)), (1, .int y1)]) hx hb dX1_workingOn_1 rfl hl (by decide) rfl (fun ls hl => ?_)
  refine lv_iconst (v := 0) hx hb dX1_workingOn_2 (by decide) ?_
  refine lv_istore_n (lv' := [(3, .int 0), (2, .int 0), (0, .ref (a 0)), (1, .int y1)]) hx hb dX1_workingOn_3 rfl hl (by decide) rfl (fun ls hl => ?_)
  obtain ⟨x1, h2, h⟩ := bd_s h
  have K23 : ∀ (ls : Array Slot), lv_has ls 5 [(2, .int x1)] → W p l e rm_X1_workingOn s m args below meth c s.heap [] 0 0 Q (F0 m 62 ls []) := by
    intro ls hl
    refine lv_iload_n hx hb dX1_workingOn_62 rfl (lv_at hl 0 rfl) ?_
    obtain rfl := Option.some.inj h
    exact hQ _ _ dX1_workingOn_63
  refine lp_W (P := fun z3 => ∀ (ls : Array Slot), lv_has ls 5 [(0, .ref (a 0)), (1, .int y1), (2, .int z3.1), (3, .int z3.2)] → W p l e rm_X1_workingOn s m args below meth c s.heap [] 0 0 Q (F0 m 4 ls [])) (E := fun x1 => ∀ (ls : Array Slot), lv_has ls 5 [(2, .int x1)] → W p l e rm_X1_workingOn s m args below meth c s.heap [] 0 0 Q (F0 m 62 ls [])) (fun z3 xx5 hB4 kI6 kE7 => ?_) _ _ _ h2 K23 ls (lv_sub hl [2, 3, 1, 0] rfl)
  intro ls hl
  unfold f_X1_workingOn_L4 at hB4
  refine lv_iload_n hx hb dX1_workingOn_4 rfl (lv_at hl 3 rfl) ?_
  refine lv_aload_n hx hb dX1_workingOn_5 rfl (lv_at hl 0 rfl) ?_
  refine va_get (D := D) (ci := 1) (v := .int S.2.2.1) (C := RX1) (T := TX1) (N := 8) hx hb hts hiRX1 hown hK hP 0 rfl rfl 2 (by decide) hf18 (fun _ h9 => h9) rfl dX1_workingOn_6 ?_
  refine lv_icmp_ge (tgt := 62) hx hb dX1_workingOn_9 (by decide) (fun c8 => ?_) (fun c8 => ?_)
  · have hB4 := if_t hB4 c8
    exact kE7 _ (Option.some.inj hB4).symm ls (lv_sub hl [2] rfl)
  · have hB4 := if_f hB4 c8
    refine lv_aload_n hx hb dX1_workingOn_12 rfl (lv_at hl 0 rfl) ?_
    refine va_get (D := D) (ci := 1) (v := .ref (a 6)) (C := RX1) (T := TX1) (N := 8) hx hb hts hiRX1 hown hK hP 0 rfl rfl 6 (by decide) hf31 (fun _ h9 => h9) rfl dX1_workingOn_13 ?_
    refine lv_iload_n hx hb dX1_workingOn_16 rfl (lv_at hl 3 rfl) ?_
    obtain ⟨c9, hB4⟩ := gd_s hB4
    refine va_lald (D := D) hx hb hK hP 6 1 rfl rfl (ix_in c9) dX1_workingOn_17 ?_
    refine lv_lconst (v := 1) hx hb dX1_workingOn_18 (by decide) ?_
    refine lv_iload_n hx hb dX1_workingOn_19 rfl (lv_at hl 1 rfl) ?_
    refine lv_lshl (v := ((1 : Int64) <<< ((y1 : Int32).toInt64 &&& 63))) hx hb dX1_workingOn_20 rfl ?_
    refine lv_land hx hb dX1_workingOn_21 ?_
    refine lv_lconst (v := 0) hx hb dX1_workingOn_22 (by decide) ?_
    refine W.lcmp hx hb dX1_workingOn_23 ?_
    obtain ⟨x10, h11, hB4⟩ := bd_s hB4
    have K12 : W p l e rm_X1_workingOn s m args below meth c s.heap [] 0 0 Q (F0 m 32 ls [.int x10]) := by
      refine lv_istore (lv' := [(4, .int x10), (0, .ref (a 0)), (1, .int y1), (2, .int z3.1), (3, .int z3.2)]) hx hb dX1_workingOn_32 hl (by decide) rfl (fun ls hl => ?_)
      refine lv_iload hx hb dX1_workingOn_34 (lv_at hl 0 rfl) ?_
      obtain ⟨x13, h14, hB4⟩ := bd_s hB4
      have K15 : ∀ (ls : Array Slot), lv_has ls 5 [(0, .ref (a 0)), (1, .int y1), (2, .int x13), (3, .int z3.2)] → W p l e rm_X1_workingOn s m args below meth c s.heap [] 0 0 Q (F0 m 56 ls []) := by
        intro ls hl
        refine lv_iinc (v := (z3.2 + 1)) (lv' := [(3, .int (z3.2 + 1)), (0, .ref (a 0)), (1, .int y1), (2, .int x13)]) hx hb dX1_workingOn_56 hl (k := 3) rfl rfl (by decide) rfl (fun ls hl => ?_)
        refine lv_goto (tgt := 4) hx hb dX1_workingOn_59 (by decide) ?_
        exact kI6 _ (Option.some.inj hB4).symm ls (lv_sub hl [1, 2, 3, 0] rfl)
      refine lv_if_ne (tgt := 56) hx hb dX1_workingOn_36 (by decide) (fun c16 => ?_) (fun c16 => ?_)
      · have h14 := if_f h14 c16
        obtain rfl := Option.some.inj h14
        exact K15 ls (lv_sub hl [1, 2, 3, 4] rfl)
      · have h14 := if_t h14 c16
        refine lv_aload_n hx hb dX1_workingOn_39 rfl (lv_at hl 1 rfl) ?_
        refine lv_iload_n hx hb dX1_workingOn_40 rfl (lv_at hl 4 rfl) ?_
        refine lv_iload_n hx hb dX1_workingOn_41 rfl (lv_at hl 2 rfl) ?_
        obtain ⟨x17, h18, h14⟩ := bd_s h14
        refine cR_V (As := [.int z3.2, .int y1]) (rest := []) (n := 2) (v := .int x17) hx hb hml hown hts hK hN hl.1 (c_X1_readingOf l D k a S z3.2 y1 x17 h18) gX1_workingOn_X1_readingOf rfl (by decide +kernel) ⟨⟨rfl, rfl⟩, by decide, by decide⟩ hP 0 1 rfl rfl rfl rfl rfl (Nat.le_of_ble_eq_true rfl) dX1_workingOn_42 ⟨Nat.zero_le _, Nat.zero_le _⟩ ?_
        refine lv_bipush (v := (-6)) hx hb dX1_workingOn_45 (by decide) ?_
        refine lv_icmp_eq (tgt := 56) hx hb dX1_workingOn_47 (by decide) (fun c19 => ?_) (fun c19 => ?_)
        · have h14 := if_t h14 c19
          obtain rfl := Option.some.inj h14
          exact K15 ls (lv_sub hl [1, 2, 3, 4] rfl)
        · have h14 := if_f h14 c19
          refine lv_iload_n hx hb dX1_workingOn_50 rfl (lv_at hl 3 rfl) ?_
          refine lv_iload_n hx hb dX1_workingOn_51 rfl (lv_at hl 4 rfl) ?_
          obtain ⟨x20, h21, h14⟩ := bd_s h14
          refine cR_N (As := [.int z3.1, .int z3.2]) (rest := []) (n := 2) (v := .int x20) hx hb hml hown hts hK hN hl.1 (c_X4_with l D k z3.1 z3.2 x20 h21) hN.2.2.2.2.2 ggX1_workingOn_X4_with rfl (hts (.static yX4_with) (by decide +kernel)) (hts (.initialized RX4) (by decide +kernel)) (by decide +kernel) ⟨⟨rfl, rfl⟩, by decide, by decide⟩ va_P_nil rfl rfl (Nat.le_of_ble_eq_true rfl) dX1_workingOn_52 ⟨Nat.zero_le _, Nat.zero_le _⟩ ?_
          refine lv_istore_n (lv' := [(2, .int x20), (4, .int x10), (0, .ref (a 0)), (1, .int y1), (3, .int z3.2)]) hx hb dX1_workingOn_55 rfl hl (by decide) rfl (fun ls hl => ?_)
          obtain rfl := Option.some.inj h14
          exact K15 ls (lv_sub hl [2, 3, 0, 4] rfl)
    refine lv_if_eq (tgt := 31) hx hb dX1_workingOn_24 (by decide) (fun c22 => ?_) (fun c22 => ?_)
    · have h11 := if_t h11 c22
      refine lv_iconst (v := 0) hx hb dX1_workingOn_31 (by decide) ?_
      obtain rfl := Option.some.inj h11
      exact K12
    · have h11 := if_f h11 c22
      refine lv_iconst (v := 1) hx hb dX1_workingOn_27 (by decide) ?_
      refine lv_goto (tgt := 32) hx hb dX1_workingOn_28 (by decide) ?_
      obtain rfl := Option.some.inj h11
      exact K12

abbrev rm_X1_putOut : Room := { frames := 0, cells := 0, slots := 0, locals := 0 }
def f_X1_putOut (S : SceneV) (y1 : Int32) (y2 : Int32) (y3 : Int32) : Option (SceneV) := (if y3 = 0 then (gd (ix y1 8) (some ((S.2.2.2.2.2.2.1 (y1 : Int32).toNatClampNeg) &&& (((1 : Int64) <<< ((y2 : Int32).toInt64 &&& 63)) ^^^ ((-1) : Int64))))) else (gd (ix y1 8) (some ((S.2.2.2.2.2.2.1 (y1 : Int32).toNatClampNeg) ||| ((1 : Int64) <<< ((y2 : Int32).toInt64 &&& 63))))) : Option (Int64)).bind (fun x1 => gd (ix y1 8) (some (S.1, S.2.1, S.2.2.1, S.2.2.2.1, S.2.2.2.2.1, S.2.2.2.2.2.1, (vp_updL S.2.2.2.2.2.2.1 (y1 : Int32).toNatClampNeg x1), S.2.2.2.2.2.2.2)))
set_option maxHeartbeats 4000000 in
set_option maxRecDepth 100000 in
theorem c_X1_putOut (l : Launch) (D : va_G) (k : Nat → ClassId) (a : Nat → Nat) (S : SceneV) (y1 : Int32) (y2 : Int32) (y3 : Int32) (r : SceneV) (h : f_X1_putOut S y1 y2 y3 = some r) : Met l yX1_putOut wsX1_putOut rm_X1_putOut (va_Pc [.ref (a 0), .int y1, .int y2, .int y3] (MB D k (sceneW k a S))) (QM D (sceneW k a S) (sceneW k a r) none) 0 0 (AD (sceneW k a S)) := by
  refine met_Mv (by decide) rfl (Nat.le_of_ble_eq_true rfl) ?_
  intro p e s m below meth c Q args ls hx hb hml hown hts hP hK hN hD hl hQ
  have hl : lv_has ls 6 [(0, .ref (a 0)), (1, .int y1), (2, .int y2), (3, .int y3)] := hl
  have hown : s.vm.findClass RX1 = some m.cls := hown
  unfold f_X1_putOut at h
  have hiRX1 : ∀ w ∈ u_ws RX1 TX1 8, w ∈ wsX1_putOut := by decide +kernel
  have hf31 := hts (.fieldLink RX1 31 "RainCells$Scene" "out" "[J") (by decide +kernel)
  generalize AD (sceneW k a S) = A0 at hD hQ
  have hS : va_S A0 s.heap s.heap [] := va_S.rf
  refine lv_lconst (v := 1) hx hb dX1_putOut_0 (by decide) ?_
  refine lv_iload_n hx hb dX1_putOut_1 rfl (lv_at hl 2 rfl) ?_
  refine lv_lshl (v := ((1 : Int64) <<< ((y2 : Int32).toInt64 &&& 63))) hx hb dX1_putOut_2 rfl ?_
  refine lv_lstore (lv' := [(4, .long ((1 : Int64) <<< ((y2 : Int32).toInt64 &&& 63))), (0, .ref (a 0)), (1, .int y1), (2, .int y2), (3, .int y3)]) hx hb dX1_putOut_3 hl (by decide) rfl (fun ls hl => ?_)
  refine lv_aload_n hx hb dX1_putOut_5 rfl (lv_at hl 1 rfl) ?_
  refine va_get (D := D) (ci := 1) (v := .ref (a 6)) (C := RX1) (T := TX1) (N := 8) hx hb hts hiRX1 hown hK hP 0 rfl rfl 6 (by decide) hf31 (fun _ h9 => h9) rfl dX1_putOut_6 ?_
  refine lv_iload_n hx hb dX1_putOut_9 rfl (lv_at hl 2 rfl) ?_
  refine lv_iload_n hx hb dX1_putOut_10 rfl (lv_at hl 4 rfl) ?_
  obtain ⟨x1, h2, h⟩ := bd_s h
  have K3 : W p l e rm_X1_putOut s m args below meth c s.heap [] 0 0 Q (F0 m 39 ls [.long x1, .int y1, .ref (a 6)]) := by
    obtain ⟨c4, h⟩ := gd_s h
    refine va_last (D := D) hx hb hK hP hD hS 6 1 rfl rfl (ix_in c4) dX1_putOut_39 (fun H locs hP hD hS => ?_)
    have hP : va_P D vwCl (sceneW k a (S.1, S.2.1, S.2.2.1, S.2.2.2.1, S.2.2.2.2.1, S.2.2.2.2.2.1, (vp_updL S.2.2.2.2.2.2.1 (y1 : Int32).toNatClampNeg x1), S.2.2.2.2.2.2.2)) H := hP
    have hD : va_D A0 (sceneW k a (S.1, S.2.1, S.2.2.1, S.2.2.2.1, S.2.2.2.2.1, S.2.2.2.2.2.1, (vp_updL S.2.2.2.2.2.2.1 (y1 : Int32).toNatClampNeg x1), S.2.2.2.2.2.2.2)) := hD
    obtain rfl := Option.some.inj h
    exact hQ _ _ _ _ dX1_putOut_40 hP hS
  refine lv_if_eq (tgt := 26) hx hb dX1_putOut_11 (by decide) (fun c5 => ?_) (fun c5 => ?_)
  · have h2 := if_t h2 c5
    refine lv_aload_n hx hb dX1_putOut_26 rfl (lv_at hl 1 rfl) ?_
    refine va_get (D := D) (ci := 1) (v := .ref (a 6)) (C := RX1) (T := TX1) (N := 8) hx hb hts hiRX1 hown hK hP 0 rfl rfl 6 (by decide) hf31 (fun _ h9 => h9) rfl dX1_putOut_27 ?_
    refine lv_iload_n hx hb dX1_putOut_30 rfl (lv_at hl 2 rfl) ?_
    obtain ⟨c6, h2⟩ := gd_s h2
    refine va_lald (D := D) hx hb hK hP 6 1 rfl rfl (ix_in c6) dX1_putOut_31 ?_
    refine lv_lload hx hb dX1_putOut_32 (lv_at hl 0 rfl) ?_
    refine lv_ldc2 hx hb hown (hts (.constantLong RX1 48 (-1)) (by decide +kernel)) dX1_putOut_34 ?_
    refine lv_lxor hx hb dX1_putOut_37 ?_
    refine lv_land hx hb dX1_putOut_38 ?_
    obtain rfl := Option.some.inj h2
    exact K3
  · have h2 := if_f h2 c5
    refine lv_aload_n hx hb dX1_putOut_14 rfl (lv_at hl 1 rfl) ?_
    refine va_get (D := D) (ci := 1) (v := .ref (a 6)) (C := RX1) (T := TX1) (N := 8) hx hb hts hiRX1 hown hK hP 0 rfl rfl 6 (by decide) hf31 (fun _ h9 => h9) rfl dX1_putOut_15 ?_
    refine lv_iload_n hx hb dX1_putOut_18 rfl (lv_at hl 2 rfl) ?_
    obtain ⟨c7, h2⟩ := gd_s h2
    refine va_lald (D := D) hx hb hK hP 6 1 rfl rfl (ix_in c7) dX1_putOut_19 ?_
    refine lv_lload hx hb dX1_putOut_20 (lv_at hl 0 rfl) ?_
    refine lv_lor hx hb dX1_putOut_22 ?_
    refine lv_goto (tgt := 39) hx hb dX1_putOut_23 (by decide) ?_
    obtain rfl := Option.some.inj h2
    exact K3

abbrev rm_X1_putReading : Room := { frames := 0, cells := 0, slots := 0, locals := 0 }
def f_X1_putReading (S : SceneV) (y1 : Int32) (y2 : Int32) (y3 : Int32) : Option (SceneV) := gd (ix ((y1 * 64) + y2) 512) (some (S.1, S.2.1, S.2.2.1, S.2.2.2.1, S.2.2.2.2.1, S.2.2.2.2.2.1, S.2.2.2.2.2.2.1, (upd S.2.2.2.2.2.2.2 (((y1 * 64) + y2) : Int32).toNatClampNeg y3)))
set_option maxHeartbeats 4000000 in
set_option maxRecDepth 100000 in
theorem c_X1_putReading (l : Launch) (D : va_G) (k : Nat → ClassId) (a : Nat → Nat) (S : SceneV) (y1 : Int32) (y2 : Int32) (y3 : Int32) (r : SceneV) (h : f_X1_putReading S y1 y2 y3 = some r) : Met l yX1_putReading wsX1_putReading rm_X1_putReading (va_Pc [.ref (a 0), .int y1, .int y2, .int y3] (MB D k (sceneW k a S))) (QM D (sceneW k a S) (sceneW k a r) none) 0 0 (AD (sceneW k a S)) := by
  refine met_Mv (by decide) rfl (Nat.le_of_ble_eq_true rfl) ?_
  intro p e s m below meth c Q args ls hx hb hml hown hts hP hK hN hD hl hQ
  have hl : lv_has ls 4 [(0, .ref (a 0)), (1, .int y1), (2, .int y2), (3, .int y3)] := hl
  have hown : s.vm.findClass RX1 = some m.cls := hown
  unfold f_X1_putReading at h
  have hiRX1 : ∀ w ∈ u_ws RX1 TX1 8, w ∈ wsX1_putReading := by decide +kernel
  have hf35 := hts (.fieldLink RX1 35 "RainCells$Scene" "readings" "[I") (by decide +kernel)
  generalize AD (sceneW k a S) = A0 at hD hQ
  have hS : va_S A0 s.heap s.heap [] := va_S.rf
  refine lv_aload_n hx hb dX1_putReading_0 rfl (lv_at hl 0 rfl) ?_
  refine va_get (D := D) (ci := 1) (v := .ref (a 7)) (C := RX1) (T := TX1) (N := 8) hx hb hts hiRX1 hown hK hP 0 rfl rfl 7 (by decide) hf35 (fun _ h9 => h9) rfl dX1_putReading_1 ?_
  refine lv_iload_n hx hb dX1_putReading_4 rfl (lv_at hl 1 rfl) ?_
  refine lv_bipush (v := 64) hx hb dX1_putReading_5 (by decide) ?_
  refine lv_imul hx hb dX1_putReading_7 ?_
  refine lv_iload_n hx hb dX1_putReading_8 rfl (lv_at hl 2 rfl) ?_
  refine lv_iadd hx hb dX1_putReading_9 ?_
  refine lv_iload_n hx hb dX1_putReading_10 rfl (lv_at hl 3 rfl) ?_
  obtain ⟨c1, h⟩ := gd_s h
  refine va_iast (D := D) hx hb hK hP hD hS 7 0 rfl rfl (ix_in c1) dX1_putReading_11 (fun H locs hP hD hS => ?_)
  have hP : va_P D vwCl (sceneW k a (S.1, S.2.1, S.2.2.1, S.2.2.2.1, S.2.2.2.2.1, S.2.2.2.2.2.1, S.2.2.2.2.2.2.1, (upd S.2.2.2.2.2.2.2 (((y1 * 64) + y2) : Int32).toNatClampNeg y3))) H := hP
  have hD : va_D A0 (sceneW k a (S.1, S.2.1, S.2.2.1, S.2.2.2.1, S.2.2.2.2.1, S.2.2.2.2.2.1, S.2.2.2.2.2.2.1, (upd S.2.2.2.2.2.2.2 (((y1 * 64) + y2) : Int32).toNatClampNeg y3))) := hD
  obtain rfl := Option.some.inj h
  exact hQ _ _ _ _ dX1_putReading_12 hP hS

abbrev rm_X1_copyFrom : Room := { frames := 1, cells := 0, slots := 0, locals := 40 }
def f_X1_copyFrom (S : SceneV) (S2 : SceneV) : Option (SceneV) := some ((va_cpy S2.1 S.1 0 0 16), (va_cpy S2.2.1 S.2.1 0 0 16), S2.2.2.1, (va_cpy S2.2.2.2.1 S.2.2.2.1 0 0 8), (va_cpy S2.2.2.2.2.1 S.2.2.2.2.1 0 0 8), (va_cpy S2.2.2.2.2.2.1 S.2.2.2.2.2.1 0 0 8), (va_cpy S2.2.2.2.2.2.2.1 S.2.2.2.2.2.2.1 0 0 8), (va_cpy S2.2.2.2.2.2.2.2 S.2.2.2.2.2.2.2 0 0 512))
set_option maxHeartbeats 4000000 in
set_option maxRecDepth 100000 in
theorem c_X1_copyFrom (l : Launch) (D : va_G) (k : Nat → ClassId) (a : Nat → Nat) (b : Nat → Nat) (S : SceneV) (S2 : SceneV) (r : SceneV) (h : f_X1_copyFrom S S2 = some r) : Met l yX1_copyFrom wsX1_copyFrom rm_X1_copyFrom (va_Pc [.ref (a 0), .ref (b 0)] (MB D k (sceneW k a S ++ (sceneW k b S2)))) (QM D (sceneW k a S ++ (sceneW k b S2)) (sceneW k a r ++ (sceneW k b S2)) none) 0 0 (AD (sceneW k a S ++ (sceneW k b S2))) := by
  refine met_Mv (by decide) rfl (Nat.le_of_ble_eq_true rfl) ?_
  intro p e s m below meth c Q args ls hx hb hml hown hts hP hK hN hD hl hQ
  have hl : lv_has ls 2 [(0, .ref (a 0)), (1, .ref (b 0))] := hl
  have hown : s.vm.findClass RX1 = some m.cls := hown
  unfold f_X1_copyFrom at h
  have hiRX1 : ∀ w ∈ u_ws RX1 TX1 8, w ∈ wsX1_copyFrom := by decide +kernel
  have hf9 := hts (.fieldLink RX1 9 "RainCells$Scene" "rowFrom" "[I") (by decide +kernel)
  have hf15 := hts (.fieldLink RX1 15 "RainCells$Scene" "rowTo" "[I") (by decide +kernel)
  have hf18 := hts (.fieldLink RX1 18 "RainCells$Scene" "gauges" "I") (by decide +kernel)
  have hf22 := hts (.fieldLink RX1 22 "RainCells$Scene" "placeX" "[I") (by decide +kernel)
  have hf25 := hts (.fieldLink RX1 25 "RainCells$Scene" "placeY" "[I") (by decide +kernel)
  have hf28 := hts (.fieldLink RX1 28 "RainCells$Scene" "reaches" "[I") (by decide +kernel)
  have hf31 := hts (.fieldLink RX1 31 "RainCells$Scene" "out" "[J") (by decide +kernel)
  have hf35 := hts (.fieldLink RX1 35 "RainCells$Scene" "readings" "[I") (by decide +kernel)
  generalize AD (sceneW k a S ++ (sceneW k b S2)) = A0 at hD hQ
  have hS : va_S A0 s.heap s.heap [] := va_S.rf
  refine lv_aload_n hx hb dX1_copyFrom_0 rfl (lv_at hl 1 rfl) ?_
  refine va_get (D := D) (ci := 1) (v := .ref (b 1)) (C := RX1) (T := TX1) (N := 8) hx hb hts hiRX1 hown hK hP 8 rfl rfl 0 (by decide) hf9 (fun _ h9 => h9) rfl dX1_copyFrom_1 ?_
  refine lv_iconst (v := 0) hx hb dX1_copyFrom_4 (by decide) ?_
  refine lv_aload_n hx hb dX1_copyFrom_5 rfl (lv_at hl 0 rfl) ?_
  refine va_get (D := D) (ci := 1) (v := .ref (a 1)) (C := RX1) (T := TX1) (N := 8) hx hb hts hiRX1 hown hK hP 0 rfl rfl 0 (by decide) hf9 (fun _ h9 => h9) rfl dX1_copyFrom_6 ?_
  refine lv_iconst (v := 0) hx hb dX1_copyFrom_9 (by decide) ?_
  refine lv_bipush (v := 16) hx hb dX1_copyFrom_10 (by decide) ?_
  refine va_copyi (D := D) hx hb (hml.trans hl.1.symm) hown (hts (.methodLink RX1 38 arraycopyName) (by decide +kernel)) (hts (.native arraycopyName) (by decide +kernel)) (hts (.static arraycopyName) (by decide +kernel)) (hts (.initialized "java/lang/System") (by decide +kernel)) hK hP hD hS 9 1 0 0 rfl rfl rfl rfl rfl (by decide) (by decide) (by decide) (by decide) (by decide) (fun _ _ => rfl) (Nat.le_of_ble_eq_true rfl) (Nat.le_of_ble_eq_true rfl) dX1_copyFrom_12 (fun H locs hP hD hS => ?_)
  have hP : va_P D vwCl (sceneW k a ((va_cpy S2.1 S.1 0 0 16), S.2) ++ (sceneW k b S2)) H := hP
  have hD : va_D A0 (sceneW k a ((va_cpy S2.1 S.1 0 0 16), S.2) ++ (sceneW k b S2)) := hD
  refine lv_aload_n hx hb dX1_copyFrom_15 rfl (lv_at hl 1 rfl) ?_
  refine va_get (D := D) (ci := 1) (v := .ref (b 2)) (C := RX1) (T := TX1) (N := 8) hx hb hts hiRX1 hown hK hP 8 rfl rfl 1 (by decide) hf15 (fun _ h9 => h9) rfl dX1_copyFrom_16 ?_
  refine lv_iconst (v := 0) hx hb dX1_copyFrom_19 (by decide) ?_
  refine lv_aload_n hx hb dX1_copyFrom_20 rfl (lv_at hl 0 rfl) ?_
  refine va_get (D := D) (ci := 1) (v := .ref (a 2)) (C := RX1) (T := TX1) (N := 8) hx hb hts hiRX1 hown hK hP 0 rfl rfl 1 (by decide) hf15 (fun _ h9 => h9) rfl dX1_copyFrom_21 ?_
  refine lv_iconst (v := 0) hx hb dX1_copyFrom_24 (by decide) ?_
  refine lv_bipush (v := 16) hx hb dX1_copyFrom_25 (by decide) ?_
  refine va_copyi (D := D) hx hb (hml.trans hl.1.symm) hown (hts (.methodLink RX1 38 arraycopyName) (by decide +kernel)) (hts (.native arraycopyName) (by decide +kernel)) (hts (.static arraycopyName) (by decide +kernel)) (hts (.initialized "java/lang/System") (by decide +kernel)) hK hP hD hS 10 2 0 0 rfl rfl rfl rfl rfl (by decide) (by decide) (by decide) (by decide) (by decide) (fun _ _ => rfl) (Nat.le_of_ble_eq_true rfl) (Nat.le_of_ble_eq_true rfl) dX1_copyFrom_27 (fun H locs hP hD hS => ?_)
  have hP : va_P D vwCl (sceneW k a ((va_cpy S2.1 S.1 0 0 16), (va_cpy S2.2.1 S.2.1 0 0 16), S.2.2) ++ (sceneW k b S2)) H := hP
  have hD : va_D A0 (sceneW k a ((va_cpy S2.1 S.1 0 0 16), (va_cpy S2.2.1 S.2.1 0 0 16), S.2.2) ++ (sceneW k b S2)) := hD
  refine lv_aload_n hx hb dX1_copyFrom_30 rfl (lv_at hl 0 rfl) ?_
  refine lv_aload_n hx hb dX1_copyFrom_31 rfl (lv_at hl 1 rfl) ?_
  refine va_get (D := D) (ci := 1) (v := .int S2.2.2.1) (C := RX1) (T := TX1) (N := 8) hx hb hts hiRX1 hown hK hP 8 rfl rfl 2 (by decide) hf18 (fun _ h9 => h9) rfl dX1_copyFrom_32 ?_
  refine va_put (D := D) (ci := 1) (v := .int S2.2.2.1) (ty := .int) (C := RX1) (T := TX1) (N := 8) hx hb hts hiRX1 tyX1 tyX1_ok nmX1 hown hK hP hD hS 0 rfl rfl 2 (by decide) hf18 (fun _ h9 => h9) rfl (by decide +kernel) rfl rfl (Nat.le_of_ble_eq_true rfl) dX1_copyFrom_35 (fun H locs hP hD hS => ?_)
  have hP : va_P D vwCl (sceneW k a ((va_cpy S2.1 S.1 0 0 16), (va_cpy S2.2.1 S.2.1 0 0 16), S2.2.2.1, S.2.2.2) ++ (sceneW k b S2)) H := hP
  have hD : va_D A0 (sceneW k a ((va_cpy S2.1 S.1 0 0 16), (va_cpy S2.2.1 S.2.1 0 0 16), S2.2.2.1, S.2.2.2) ++ (sceneW k b S2)) := hD
  refine lv_aload_n hx hb dX1_copyFrom_38 rfl (lv_at hl 1 rfl) ?_
  refine va_get (D := D) (ci := 1) (v := .ref (b 3)) (C := RX1) (T := TX1) (N := 8) hx hb hts hiRX1 hown hK hP 8 rfl rfl 3 (by decide) hf22 (fun _ h9 => h9) rfl dX1_copyFrom_39 ?_
  refine lv_iconst (v := 0) hx hb dX1_copyFrom_42 (by decide) ?_
  refine lv_aload_n hx hb dX1_copyFrom_43 rfl (lv_at hl 0 rfl) ?_
  refine va_get (D := D) (ci := 1) (v := .ref (a 3)) (C := RX1) (T := TX1) (N := 8) hx hb hts hiRX1 hown hK hP 0 rfl rfl 3 (by decide) hf22 (fun _ h9 => h9) rfl dX1_copyFrom_44 ?_
  refine lv_iconst (v := 0) hx hb dX1_copyFrom_47 (by decide) ?_
  refine lv_bipush (v := 8) hx hb dX1_copyFrom_48 (by decide) ?_
  refine va_copyi (D := D) hx hb (hml.trans hl.1.symm) hown (hts (.methodLink RX1 38 arraycopyName) (by decide +kernel)) (hts (.native arraycopyName) (by decide +kernel)) (hts (.static arraycopyName) (by decide +kernel)) (hts (.initialized "java/lang/System") (by decide +kernel)) hK hP hD hS 11 3 0 0 rfl rfl rfl rfl rfl (by decide) (by decide) (by decide) (by decide) (by decide) (fun _ _ => rfl) (Nat.le_of_ble_eq_true rfl) (Nat.le_of_ble_eq_true rfl) dX1_copyFrom_50 (fun H locs hP hD hS => ?_)
  have hP : va_P D vwCl (sceneW k a ((va_cpy S2.1 S.1 0 0 16), (va_cpy S2.2.1 S.2.1 0 0 16), S2.2.2.1, (va_cpy S2.2.2.2.1 S.2.2.2.1 0 0 8), S.2.2.2.2) ++ (sceneW k b S2)) H := hP
  have hD : va_D A0 (sceneW k a ((va_cpy S2.1 S.1 0 0 16), (va_cpy S2.2.1 S.2.1 0 0 16), S2.2.2.1, (va_cpy S2.2.2.2.1 S.2.2.2.1 0 0 8), S.2.2.2.2) ++ (sceneW k b S2)) := hD
  refine lv_aload_n hx hb dX1_copyFrom_53 rfl (lv_at hl 1 rfl) ?_
  refine va_get (D := D) (ci := 1) (v := .ref (b 4)) (C := RX1) (T := TX1) (N := 8) hx hb hts hiRX1 hown hK hP 8 rfl rfl 4 (by decide) hf25 (fun _ h9 => h9) rfl dX1_copyFrom_54 ?_
  refine lv_iconst (v := 0) hx hb dX1_copyFrom_57 (by decide) ?_
  refine lv_aload_n hx hb dX1_copyFrom_58 rfl (lv_at hl 0 rfl) ?_
  refine va_get (D := D) (ci := 1) (v := .ref (a 4)) (C := RX1) (T := TX1) (N := 8) hx hb hts hiRX1 hown hK hP 0 rfl rfl 4 (by decide) hf25 (fun _ h9 => h9) rfl dX1_copyFrom_59 ?_
  refine lv_iconst (v := 0) hx hb dX1_copyFrom_62 (by decide) ?_
  refine lv_bipush (v := 8) hx hb dX1_copyFrom_63 (by decide) ?_
  refine va_copyi (D := D) hx hb (hml.trans hl.1.symm) hown (hts (.methodLink RX1 38 arraycopyName) (by decide +kernel)) (hts (.native arraycopyName) (by decide +kernel)) (hts (.static arraycopyName) (by decide +kernel)) (hts (.initialized "java/lang/System") (by decide +kernel)) hK hP hD hS 12 4 0 0 rfl rfl rfl rfl rfl (by decide) (by decide) (by decide) (by decide) (by decide) (fun _ _ => rfl) (Nat.le_of_ble_eq_true rfl) (Nat.le_of_ble_eq_true rfl) dX1_copyFrom_65 (fun H locs hP hD hS => ?_)
  have hP : va_P D vwCl (sceneW k a ((va_cpy S2.1 S.1 0 0 16), (va_cpy S2.2.1 S.2.1 0 0 16), S2.2.2.1, (va_cpy S2.2.2.2.1 S.2.2.2.1 0 0 8), (va_cpy S2.2.2.2.2.1 S.2.2.2.2.1 0 0 8), S.2.2.2.2.2) ++ (sceneW k b S2)) H := hP
  have hD : va_D A0 (sceneW k a ((va_cpy S2.1 S.1 0 0 16), (va_cpy S2.2.1 S.2.1 0 0 16), S2.2.2.1, (va_cpy S2.2.2.2.1 S.2.2.2.1 0 0 8), (va_cpy S2.2.2.2.2.1 S.2.2.2.2.1 0 0 8), S.2.2.2.2.2) ++ (sceneW k b S2)) := hD
  refine lv_aload_n hx hb dX1_copyFrom_68 rfl (lv_at hl 1 rfl) ?_
  refine va_get (D := D) (ci := 1) (v := .ref (b 5)) (C := RX1) (T := TX1) (N := 8) hx hb hts hiRX1 hown hK hP 8 rfl rfl 5 (by decide) hf28 (fun _ h9 => h9) rfl dX1_copyFrom_69 ?_
  refine lv_iconst (v := 0) hx hb dX1_copyFrom_72 (by decide) ?_
  refine lv_aload_n hx hb dX1_copyFrom_73 rfl (lv_at hl 0 rfl) ?_
  refine va_get (D := D) (ci := 1) (v := .ref (a 5)) (C := RX1) (T := TX1) (N := 8) hx hb hts hiRX1 hown hK hP 0 rfl rfl 5 (by decide) hf28 (fun _ h9 => h9) rfl dX1_copyFrom_74 ?_
  refine lv_iconst (v := 0) hx hb dX1_copyFrom_77 (by decide) ?_
  refine lv_bipush (v := 8) hx hb dX1_copyFrom_78 (by decide) ?_
  refine va_copyi (D := D) hx hb (hml.trans hl.1.symm) hown (hts (.methodLink RX1 38 arraycopyName) (by decide +kernel)) (hts (.native arraycopyName) (by decide +kernel)) (hts (.static arraycopyName) (by decide +kernel)) (hts (.initialized "java/lang/System") (by decide +kernel)) hK hP hD hS 13 5 0 0 rfl rfl rfl rfl rfl (by decide) (by decide) (by decide) (by decide) (by decide) (fun _ _ => rfl) (Nat.le_of_ble_eq_true rfl) (Nat.le_of_ble_eq_true rfl) dX1_copyFrom_80 (fun H locs hP hD hS => ?_)
  have hP : va_P D vwCl (sceneW k a ((va_cpy S2.1 S.1 0 0 16), (va_cpy S2.2.1 S.2.1 0 0 16), S2.2.2.1, (va_cpy S2.2.2.2.1 S.2.2.2.1 0 0 8), (va_cpy S2.2.2.2.2.1 S.2.2.2.2.1 0 0 8), (va_cpy S2.2.2.2.2.2.1 S.2.2.2.2.2.1 0 0 8), S.2.2.2.2.2.2) ++ (sceneW k b S2)) H := hP
  have hD : va_D A0 (sceneW k a ((va_cpy S2.1 S.1 0 0 16), (va_cpy S2.2.1 S.2.1 0 0 16), S2.2.2.1, (va_cpy S2.2.2.2.1 S.2.2.2.1 0 0 8), (va_cpy S2.2.2.2.2.1 S.2.2.2.2.1 0 0 8), (va_cpy S2.2.2.2.2.2.1 S.2.2.2.2.2.1 0 0 8), S.2.2.2.2.2.2) ++ (sceneW k b S2)) := hD
  refine lv_aload_n hx hb dX1_copyFrom_83 rfl (lv_at hl 1 rfl) ?_
  refine va_get (D := D) (ci := 1) (v := .ref (b 6)) (C := RX1) (T := TX1) (N := 8) hx hb hts hiRX1 hown hK hP 8 rfl rfl 6 (by decide) hf31 (fun _ h9 => h9) rfl dX1_copyFrom_84 ?_
  refine lv_iconst (v := 0) hx hb dX1_copyFrom_87 (by decide) ?_
  refine lv_aload_n hx hb dX1_copyFrom_88 rfl (lv_at hl 0 rfl) ?_
  refine va_get (D := D) (ci := 1) (v := .ref (a 6)) (C := RX1) (T := TX1) (N := 8) hx hb hts hiRX1 hown hK hP 0 rfl rfl 6 (by decide) hf31 (fun _ h9 => h9) rfl dX1_copyFrom_89 ?_
  refine lv_iconst (v := 0) hx hb dX1_copyFrom_92 (by decide) ?_
  refine lv_bipush (v := 8) hx hb dX1_copyFrom_93 (by decide) ?_
  refine va_copyl (D := D) hx hb (hml.trans hl.1.symm) hown (hts (.methodLink RX1 38 arraycopyName) (by decide +kernel)) (hts (.native arraycopyName) (by decide +kernel)) (hts (.static arraycopyName) (by decide +kernel)) (hts (.initialized "java/lang/System") (by decide +kernel)) hK hP hD hS 14 6 1 1 rfl rfl rfl rfl rfl (by decide) (by decide) (by decide) (by decide) (by decide) (fun _ _ => rfl) (Nat.le_of_ble_eq_true rfl) (Nat.le_of_ble_eq_true rfl) dX1_copyFrom_95 (fun H locs hP hD hS => ?_)
  have hP : va_P D vwCl (sceneW k a ((va_cpy S2.1 S.1 0 0 16), (va_cpy S2.2.1 S.2.1 0 0 16), S2.2.2.1, (va_cpy S2.2.2.2.1 S.2.2.2.1 0 0 8), (va_cpy S2.2.2.2.2.1 S.2.2.2.2.1 0 0 8), (va_cpy S2.2.2.2.2.2.1 S.2.2.2.2.2.1 0 0 8), (va_cpy S2.2.2.2.2.2.2.1 S.2.2.2.2.2.2.1 0 0 8), S.2.2.2.2.2.2.2) ++ (sceneW k b S2)) H := hP
  have hD : va_D A0 (sceneW k a ((va_cpy S2.1 S.1 0 0 16), (va_cpy S2.2.1 S.2.1 0 0 16), S2.2.2.1, (va_cpy S2.2.2.2.1 S.2.2.2.1 0 0 8), (va_cpy S2.2.2.2.2.1 S.2.2.2.2.1 0 0 8), (va_cpy S2.2.2.2.2.2.1 S.2.2.2.2.2.1 0 0 8), (va_cpy S2.2.2.2.2.2.2.1 S.2.2.2.2.2.2.1 0 0 8), S.2.2.2.2.2.2.2) ++ (sceneW k b S2)) := hD
  refine lv_aload_n hx hb dX1_copyFrom_98 rfl (lv_at hl 1 rfl) ?_
  refine va_get (D := D) (ci := 1) (v := .ref (b 7)) (C := RX1) (T := TX1) (N := 8) hx hb hts hiRX1 hown hK hP 8 rfl rfl 7 (by decide) hf35 (fun _ h9 => h9) rfl dX1_copyFrom_99 ?_
  refine lv_iconst (v := 0) hx hb dX1_copyFrom_102 (by decide) ?_
  refine lv_aload_n hx hb dX1_copyFrom_103 rfl (lv_at hl 0 rfl) ?_
  refine va_get (D := D) (ci := 1) (v := .ref (a 7)) (C := RX1) (T := TX1) (N := 8) hx hb hts hiRX1 hown hK hP 0 rfl rfl 7 (by decide) hf35 (fun _ h9 => h9) rfl dX1_copyFrom_104 ?_
  refine lv_iconst (v := 0) hx hb dX1_copyFrom_107 (by decide) ?_
  refine lv_sipush (v := 512) hx hb dX1_copyFrom_108 (by decide) ?_
  refine va_copyi (D := D) hx hb (hml.trans hl.1.symm) hown (hts (.methodLink RX1 38 arraycopyName) (by decide +kernel)) (hts (.native arraycopyName) (by decide +kernel)) (hts (.static arraycopyName) (by decide +kernel)) (hts (.initialized "java/lang/System") (by decide +kernel)) hK hP hD hS 15 7 0 0 rfl rfl rfl rfl rfl (by decide) (by decide) (by decide) (by decide) (by decide) (fun _ _ => rfl) (Nat.le_of_ble_eq_true rfl) (Nat.le_of_ble_eq_true rfl) dX1_copyFrom_111 (fun H locs hP hD hS => ?_)
  have hP : va_P D vwCl (sceneW k a ((va_cpy S2.1 S.1 0 0 16), (va_cpy S2.2.1 S.2.1 0 0 16), S2.2.2.1, (va_cpy S2.2.2.2.1 S.2.2.2.1 0 0 8), (va_cpy S2.2.2.2.2.1 S.2.2.2.2.1 0 0 8), (va_cpy S2.2.2.2.2.2.1 S.2.2.2.2.2.1 0 0 8), (va_cpy S2.2.2.2.2.2.2.1 S.2.2.2.2.2.2.1 0 0 8), (va_cpy S2.2.2.2.2.2.2.2 S.2.2.2.2.2.2.2 0 0 512)) ++ (sceneW k b S2)) H := hP
  have hD : va_D A0 (sceneW k a ((va_cpy S2.1 S.1 0 0 16), (va_cpy S2.2.1 S.2.1 0 0 16), S2.2.2.1, (va_cpy S2.2.2.2.1 S.2.2.2.1 0 0 8), (va_cpy S2.2.2.2.2.1 S.2.2.2.2.1 0 0 8), (va_cpy S2.2.2.2.2.2.1 S.2.2.2.2.2.1 0 0 8), (va_cpy S2.2.2.2.2.2.2.1 S.2.2.2.2.2.2.1 0 0 8), (va_cpy S2.2.2.2.2.2.2.2 S.2.2.2.2.2.2.2 0 0 512)) ++ (sceneW k b S2)) := hD
  obtain rfl := Option.some.inj h
  exact hQ _ _ _ _ dX1_copyFrom_114 hP hS
