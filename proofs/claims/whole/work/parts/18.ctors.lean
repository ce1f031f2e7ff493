/-! written by wip/whole/ctor.py -/
abbrev rm_X0_init : Room := { frames := 1, cells := 3, slots := 272, locals := 12 }
def f_X0_init_L36 (z : Int32 × CellV) : Option ((Int32 × CellV) ⊕ (CellV)) := if 256 ≤ z.1 then (some (.inr z.2)) else (gd (ix z.1 256) (some (.inl ((z.1 + 1), ((z.2).1, (upd ((z.2).2.1) (z.1 : Int32).toNatClampNeg (-1)), (z.2).2.2)))))
def f_X0_init : Option CellV := (lp (f_X0_init_L36) fu (0, ((0 : Int32), (fun _ => (0 : Int32)), (fun _ => (0 : Int32)), (fun _ => (0 : Int32))))).bind (fun x1 => some x1)
set_option maxHeartbeats 4000000 in
set_option maxRecDepth 100000 in
theorem c_X0_init (l : Launch) (D : va_G) (k : Nat → ClassId) (h0 sz : Nat) (C0 : CellV) (h : f_X0_init = some C0) : Met l yX0_init wsX0_init rm_X0_init (va_Pc [.ref h0] (CB D k sz [(h0, .inr (0, [.int 0, .null, .null, .null]))])) (QC D [(h0, .inr (0, [.int 0, .null, .null, .null]))] sz h0 (fun a => cellsW k a C0)) 3 272 (va_A [(h0, .inr (0, [.int 0, .null, .null, .null]))] sz) := by
  refine met_C (by decide) rfl rfl (Nat.le_of_ble_eq_true rfl) ?_
  intro p e s m below meth c Q args ls A hx hb hml hown hts hin hP hK hN hA1 hA2 hD hA hl hQ
  have hown : s.vm.findClass RX0 = some m.cls := hown
  have hS : va_S A s.heap s.heap [] := va_S.rf
  have hiRX0 : ∀ w ∈ u_ws RX0 TX0 4, w ∈ wsX0_init := by decide +kernel
  have hf9 := hts (.fieldLink RX0 9 "RainCells$Cells" "set" "I") (by decide +kernel)
  have hf15 := hts (.fieldLink RX0 15 "RainCells$Cells" "owners" "[I") (by decide +kernel)
  have hf19 := hts (.fieldLink RX0 19 "RainCells$Cells" "plots" "[I") (by decide +kernel)
  have hf22 := hts (.fieldLink RX0 22 "RainCells$Cells" "fars" "[I") (by decide +kernel)
  unfold f_X0_init at h
  refine lv_aload_n hx hb dX0_init_0 rfl (lv_at hl 0 rfl) ?_
  refine W.objInit hx hb hown (hts (.methodLink RX0 3 objectInit) (by decide +kernel)) (hts (.instanceMethod objectInit) (by decide +kernel)) (hts _ (List.mem_of_getElem? (i := 3) rfl)) rfl (by rw [hml]; exact hl.1) rfl dX0_init_1 (Nat.le_of_ble_eq_true rfl) (Nat.le_of_ble_eq_true rfl) ?_
  refine W.eq (g2 := F0 m 4 ls []) rfl ?_
  refine lv_aload_n hx hb dX0_init_4 rfl (lv_at hl 0 rfl) ?_
  refine lv_iconst (v := 0) hx hb dX0_init_5 (by decide) ?_
  refine va_put (D := D) (ci := 0) (v := .int 0) (ty := .int) (C := RX0) (T := TX0) (N := 4) hx hb hts hiRX0 tyX0 tyX0_ok nmX0 hown hK hP hD hS 0 rfl rfl 0 (by decide) hf9 (fun _ h9 => h9) rfl (by decide +kernel) rfl rfl (Nat.le_of_ble_eq_true rfl) dX0_init_6 (fun H locs hP hD hS => ?_)
  have hP : va_P D vwCl ([(h0, .inr (0, [.int 0, .null, .null, .null]))]) H := hP
  have hD : va_D A ([(h0, .inr (0, [.int 0, .null, .null, .null]))]) := hD
  refine lv_aload_n hx hb dX0_init_9 rfl (lv_at hl 0 rfl) ?_
  refine lv_sipush (v := 256) hx hb dX0_init_10 (by decide) ?_
  refine va_newa (atype := .int) (n := 256) (N' := 256) (a0 := (256, .inl (fun _ => 0))) hx hb (hts (.arrayClass .int) (by decide +kernel)) rfl hK hP hD hS hA (fun _ => rfl) (by decide) (by decide) (by decide) (Nat.le_of_ble_eq_true rfl) (Nat.le_of_ble_eq_true rfl) dX0_init_13 (fun q1 cA H hK1 hP hD hS => ?_)
  obtain rfl := ra_int hK hK1
  have hP : va_P D vwCl ((h0, .inr (0, [.int 0, .null, .null, .null])) :: [(q1, .inl (k 0, 256, .inl (fun _ => 0)))]) H := hP
  have hD : va_D A ((h0, .inr (0, [.int 0, .null, .null, .null])) :: [(q1, .inl (k 0, 256, .inl (fun _ => 0)))]) := hD
  refine va_putF (D := D) (ci := 0) (v := .ref q1) (ty := (.array .int)) (C := RX0) (T := TX0) (N := 4) hx hb hts hiRX0 tyX0 tyX0_ok nmX0 hown hK hP hD hS 0 rfl rfl 1 (by decide) hf15 (fun _ h9 => h9) rfl hin rfl (by decide +kernel) rfl rfl (Nat.le_of_ble_eq_true rfl) dX0_init_15 (fun H locs hP hD hS => ?_)
  have hP : va_P D vwCl ((h0, .inr (0, [.int 0, .ref q1, .null, .null])) :: [(q1, .inl (k 0, 256, .inl (fun _ => 0)))]) H := hP
  have hD : va_D A ((h0, .inr (0, [.int 0, .ref q1, .null, .null])) :: [(q1, .inl (k 0, 256, .inl (fun _ => 0)))]) := hD
  refine lv_aload_n hx hb dX0_init_18 rfl (lv_at hl 0 rfl) ?_
  refine lv_bipush (v := 8) hx hb dX0_init_19 (by decide) ?_
  refine va_newa (atype := .int) (n := 8) (N' := 8) (a0 := (8, .inl (fun _ => 0))) hx hb (hts (.arrayClass .int) (by decide +kernel)) rfl hK hP hD hS hA (fun _ => rfl) (by decide) (by decide) (by decide) (Nat.le_of_ble_eq_true rfl) (Nat.le_of_ble_eq_true rfl) dX0_init_21 (fun q2 cA H hK1 hP hD hS => ?_)
  obtain rfl := ra_int hK hK1
  have hP : va_P D vwCl ((h0, .inr (0, [.int 0, .ref q1, .null, .null])) :: (q1, .inl (k 0, 256, .inl (fun _ => 0))) :: [(q2, .inl (k 0, 8, .inl (fun _ => 0)))]) H := hP
  have hD : va_D A ((h0, .inr (0, [.int 0, .ref q1, .null, .null])) :: (q1, .inl (k 0, 256, .inl (fun _ => 0))) :: [(q2, .inl (k 0, 8, .inl (fun _ => 0)))]) := hD
  refine va_putF (D := D) (ci := 0) (v := .ref q2) (ty := (.array .int)) (C := RX0) (T := TX0) (N := 4) hx hb hts hiRX0 tyX0 tyX0_ok nmX0 hown hK hP hD hS 0 rfl rfl 2 (by decide) hf19 (fun _ h9 => h9) rfl hin rfl (by decide +kernel) rfl rfl (Nat.le_of_ble_eq_true rfl) dX0_init_23 (fun H locs hP hD hS => ?_)
  have hP : va_P D vwCl ((h0, .inr (0, [.int 0, .ref q1, .ref q2, .null])) :: (q1, .inl (k 0, 256, .inl (fun _ => 0))) :: [(q2, .inl (k 0, 8, .inl (fun _ => 0)))]) H := hP
  have hD : va_D A ((h0, .inr (0, [.int 0, .ref q1, .ref q2, .null])) :: (q1, .inl (k 0, 256, .inl (fun _ => 0))) :: [(q2, .inl (k 0, 8, .inl (fun _ => 0)))]) := hD
  refine lv_aload_n hx hb dX0_init_26 rfl (lv_at hl 0 rfl) ?_
  refine lv_bipush (v := 8) hx hb dX0_init_27 (by decide) ?_
  refine va_newa (atype := .int) (n := 8) (N' := 8) (a0 := (8, .inl (fun _ => 0))) hx hb (hts (.arrayClass .int) (by decide +kernel)) rfl hK hP hD hS hA (fun _ => rfl) (by decide) (by decide) (by decide) (Nat.le_of_ble_eq_true rfl) (Nat.le_of_ble_eq_true rfl) dX0_init_29 (fun q3 cA H hK1 hP hD hS => ?_)
  obtain rfl := ra_int hK hK1
  have hP : va_P D vwCl ((h0, .inr (0, [.int 0, .ref q1, .ref q2, .null])) :: (q1, .inl (k 0, 256, .inl (fun _ => 0))) :: (q2, .inl (k 0, 8, .inl (fun _ => 0))) :: [(q3, .inl (k 0, 8, .inl (fun _ => 0)))]) H := hP
  have hD : va_D A ((h0, .inr (0, [.int 0, .ref q1, .ref q2, .null])) :: (q1, .inl (k 0, 256, .inl (fun _ => 0))) :: (q2, .inl (k 0, 8, .inl (fun _ => 0))) :: [(q3, .inl (k 0, 8, .inl (fun _ => 0)))]) := hD
  refine va_putF (D := D) (ci := 0) (v := .ref q3) (ty := (.array .int)) (C := RX0) (T := TX0) (N := 4) hx hb hts hiRX0 tyX0 tyX0_ok nmX0 hown hK hP hD hS 0 rfl rfl 3 (by decide) hf22 (fun _ h9 => h9) rfl hin rfl (by decide +kernel) rfl rfl (Nat.le_of_ble_eq_true rfl) dX0_init_31 (fun H locs hP hD hS => ?_)
  have hP : va_P D vwCl ((h0, .inr (0, [.int 0, .ref q1, .ref q2, .ref q3])) :: (q1, .inl (k 0, 256, .inl (fun _ => 0))) :: (q2, .inl (k 0, 8, .inl (fun _ => 0))) :: [(q3, .inl (k 0, 8, .inl (fun _ => 0)))]) H := hP
  have hD : va_D A ((h0, .inr (0, [.int 0, .ref q1, .ref q2, .ref q3])) :: (q1, .inl (k 0, 256, .inl (fun _ => 0))) :: (q2, .inl (k 0, 8, .inl (fun _ => 0))) :: [(q3, .inl (k 0, 8, .inl (fun _ => 0)))]) := hD
  obtain ⟨a, ha⟩ : ∃ a : Nat → Nat, a = fun n => ([h0, q1, q2, q3] : List Nat).getD n 0 := ⟨_, rfl⟩
  have ha0 : a 0 = h0 := by rw [ha]; rfl
  have hP : va_P D vwCl (cellsW k a ((0 : Int32), (fun _ => (0 : Int32)), (fun _ => (0 : Int32)), (fun _ => (0 : Int32)))) H := by rw [ha]; exact hP.sub [0, 1, 2, 3] rfl
  have hD : va_D A (cellsW k a ((0 : Int32), (fun _ => (0 : Int32)), (fun _ => (0 : Int32)), (fun _ => (0 : Int32)))) := by rw [ha]; exact hD.sub [0, 1, 2, 3] (by decide) rfl
  have hl : lv_has ls 2 [(0, .ref (a 0))] := by rw [ha]; exact hl
  refine lv_iconst (v := 0) hx hb dX0_init_34 (by decide) ?_
  refine lv_istore_n (lv' := [(1, .int 0), (0, .ref (a 0))]) hx hb dX0_init_35 rfl hl (by decide) rfl (fun ls hl => ?_)
  obtain ⟨x1, h2, h⟩ := bd_s h
  have K10 : ∀ (ls : Array Slot) (H : Heap) (locs : List Loc), lv_has ls 2 [] → va_P D vwCl (cellsW k a x1) H → va_D A (cellsW k a x1) → va_S A s.heap H locs → W p l e rm_X0_init s m args below meth c H locs 3 272 Q (F0 m 56 ls []) := by
    intro ls H locs hl hP hD hS
    obtain rfl := Option.some.inj h
    exact hQ _ _ _ _ a dX0_init_56 ha0 hP hD hS
  refine lp_W (P := fun z3 => ∀ (ls : Array Slot) (H : Heap) (locs : List Loc), lv_has ls 2 [(0, .ref (a 0)), (1, .int z3.1)] → va_P D vwCl (cellsW k a z3.2) H → va_D A (cellsW k a z3.2) → va_S A s.heap H locs → W p l e rm_X0_init s m args below meth c H locs 3 272 Q (F0 m 36 ls [])) (E := fun x1 => ∀ (ls : Array Slot) (H : Heap) (locs : List Loc), lv_has ls 2 [] → va_P D vwCl (cellsW k a x1) H → va_D A (cellsW k a x1) → va_S A s.heap H locs → W p l e rm_X0_init s m args below meth c H locs 3 272 Q (F0 m 56 ls [])) (fun z3 xx5 hB4 kI6 kE7 => ?_) _ _ _ h2 K10 ls H locs (lv_sub hl [1, 0] rfl) hP hD hS
  intro ls H locs hl hP hD hS
  unfold f_X0_init_L36 at hB4
  refine lv_iload_n hx hb dX0_init_36 rfl (lv_at hl 1 rfl) ?_
  refine lv_sipush (v := 256) hx hb dX0_init_37 (by decide) ?_
  refine lv_icmp_ge (tgt := 56) hx hb dX0_init_40 (by decide) (fun c8 => ?_) (fun c8 => ?_)
  · have hB4 := if_t hB4 c8
    exact kE7 _ (Option.some.inj hB4).symm ls H locs (lv_sub hl [] rfl) hP hD hS
  · have hB4 := if_f hB4 c8
    refine lv_aload_n hx hb dX0_init_43 rfl (lv_at hl 0 rfl) ?_
    refine va_get (D := D) (ci := 0) (v := .ref (a 1)) (C := RX0) (T := TX0) (N := 4) hx hb hts hiRX0 hown hK hP 0 rfl rfl 1 (by decide) hf15 (fun _ h9 => h9) rfl dX0_init_44 ?_
    refine lv_iload_n hx hb dX0_init_47 rfl (lv_at hl 1 rfl) ?_
    refine lv_iconst (v := (-1)) hx hb dX0_init_48 (by decide) ?_
    obtain ⟨c9, hB4⟩ := gd_s hB4
    refine va_iast (D := D) hx hb hK hP hD hS 1 0 rfl rfl (ix_in c9) dX0_init_49 (fun H locs hP hD hS => ?_)
    have hP : va_P D vwCl (cellsW k a ((z3.2).1, (upd ((z3.2).2.1) (z3.1 : Int32).toNatClampNeg (-1)), (z3.2).2.2)) H := hP
    have hD : va_D A (cellsW k a ((z3.2).1, (upd ((z3.2).2.1) (z3.1 : Int32).toNatClampNeg (-1)), (z3.2).2.2)) := hD
    refine lv_iinc (v := (z3.1 + 1)) (lv' := [(1, .int (z3.1 + 1)), (0, .ref (a 0))]) hx hb dX0_init_50 hl (k := 1) rfl rfl (by decide) rfl (fun ls hl => ?_)
    refine lv_goto (tgt := 36) hx hb dX0_init_53 (by decide) ?_
    exact kI6 _ (Option.some.inj hB4).symm ls H locs (lv_sub hl [1, 0] rfl) hP hD hS

abbrev rm_X1_init : Room := { frames := 1, cells := 7, slots := 576, locals := 12 }
def f_X1_init_L68 (z : Int32 × SceneV) : Option ((Int32 × SceneV) ⊕ (SceneV)) := if 16 ≤ z.1 then (some (.inr z.2)) else (gd (ix z.1 16) (some (.inl ((z.1 + 1), ((z.2).1, (upd ((z.2).2.1) (z.1 : Int32).toNatClampNeg 15), (z.2).2.2)))))
def f_X1_init_L90 (z : Int32 × SceneV) : Option ((Int32 × SceneV) ⊕ (SceneV)) := if 512 ≤ z.1 then (some (.inr z.2)) else (gd (ix z.1 512) (some (.inl ((z.1 + 1), ((z.2).1, (z.2).2.1, (z.2).2.2.1, (z.2).2.2.2.1, (z.2).2.2.2.2.1, (z.2).2.2.2.2.2.1, (z.2).2.2.2.2.2.2.1, (upd ((z.2).2.2.2.2.2.2.2) (z.1 : Int32).toNatClampNeg (-6)))))))
def f_X1_init : Option SceneV := (lp (f_X1_init_L68) fu (0, ((fun _ => (0 : Int32)), (fun _ => (0 : Int32)), (0 : Int32), (fun _ => (0 : Int32)), (fun _ => (0 : Int32)), (fun _ => (0 : Int32)), (fun _ => (0 : Int64)), (fun _ => (0 : Int32))))).bind (fun x1 => (lp (f_X1_init_L90) fu (0, x1)).bind (fun x8 => some x8))
set_option maxHeartbeats 4000000 in
set_option maxRecDepth 100000 in
theorem c_X1_init (l : Launch) (D : va_G) (k : Nat → ClassId) (h0 sz : Nat) (S0 : SceneV) (h : f_X1_init = some S0) : Met l yX1_init wsX1_init rm_X1_init (va_Pc [.ref h0] (CB D k sz [(h0, .inr (1, [.null, .null, .int 0, .null, .null, .null, .null, .null]))])) (QC D [(h0, .inr (1, [.null, .null, .int 0, .null, .null, .null, .null, .null]))] sz h0 (fun a => sceneW k a S0)) 7 576 (va_A [(h0, .inr (1, [.null, .null, .int 0, .null, .null, .null, .null, .null]))] sz) := by
  refine met_C (by decide) rfl rfl (Nat.le_of_ble_eq_true rfl) ?_
  intro p e s m below meth c Q args ls A hx hb hml hown hts hin hP hK hN hA1 hA2 hD hA hl hQ
  have hown : s.vm.findClass RX1 = some m.cls := hown
  have hS : va_S A s.heap s.heap [] := va_S.rf
  have hiRX1 : ∀ w ∈ u_ws RX1 TX1 8, w ∈ wsX1_init := by decide +kernel
  have hf9 := hts (.fieldLink RX1 9 "RainCells$Scene" "rowFrom" "[I") (by decide +kernel)
  have hf15 := hts (.fieldLink RX1 15 "RainCells$Scene" "rowTo" "[I") (by decide +kernel)
  have hf18 := hts (.fieldLink RX1 18 "RainCells$Scene" "gauges" "I") (by decide +kernel)
  have hf22 := hts (.fieldLink RX1 22 "RainCells$Scene" "placeX" "[I") (by decide +kernel)
  have hf25 := hts (.fieldLink RX1 25 "RainCells$Scene" "placeY" "[I") (by decide +kernel)
  have hf28 := hts (.fieldLink RX1 28 "RainCells$Scene" "reaches" "[I") (by decide +kernel)
  have hf31 := hts (.fieldLink RX1 31 "RainCells$Scene" "out" "[J") (by decide +kernel)
  have hf35 := hts (.fieldLink RX1 35 "RainCells$Scene" "readings" "[I") (by decide +kernel)
  unfold f_X1_init at h
  refine lv_aload_n hx hb dX1_init_0 rfl (lv_at hl 0 rfl) ?_
  refine W.objInit hx hb hown (hts (.methodLink RX1 3 objectInit) (by decide +kernel)) (hts (.instanceMethod objectInit) (by decide +kernel)) (hts _ (List.mem_of_getElem? (i := 3) rfl)) rfl (by rw [hml]; exact hl.1) rfl dX1_init_1 (Nat.le_of_ble_eq_true rfl) (Nat.le_of_ble_eq_true rfl) ?_
  refine W.eq (g2 := F0 m 4 ls []) rfl ?_
  refine lv_aload_n hx hb dX1_init_4 rfl (lv_at hl 0 rfl) ?_
  refine lv_bipush (v := 16) hx hb dX1_init_5 (by decide) ?_
  refine va_newa (atype := .int) (n := 16) (N' := 16) (a0 := (16, .inl (fun _ => 0))) hx hb (hts (.arrayClass .int) (by decide +kernel)) rfl hK hP hD hS hA (fun _ => rfl) (by decide) (by decide) (by decide) (Nat.le_of_ble_eq_true rfl) (Nat.le_of_ble_eq_true rfl) dX1_init_7 (fun q1 cA H hK1 hP hD hS => ?_)
  obtain rfl := ra_int hK hK1
  have hP : va_P D vwCl ((h0, .inr (1, [.null, .null, .int 0, .null, .null, .null, .null, .null])) :: [(q1, .inl (k 0, 16, .inl (fun _ => 0)))]) H := hP
  have hD : va_D A ((h0, .inr (1, [.null, .null, .int 0, .null, .null, .null, .null, .null])) :: [(q1, .inl (k 0, 16, .inl (fun _ => 0)))]) := hD
  refine va_putF (D := D) (ci := 1) (v := .ref q1) (ty := (.array .int)) (C := RX1) (T := TX1) (N := 8) hx hb hts hiRX1 tyX1 tyX1_ok nmX1 hown hK hP hD hS 0 rfl rfl 0 (by decide) hf9 (fun _ h9 => h9) rfl hin rfl (by decide +kernel) rfl rfl (Nat.le_of_ble_eq_true rfl) dX1_init_9 (fun H locs hP hD hS => ?_)
  have hP : va_P D vwCl ((h0, .inr (1, [.ref q1, .null, .int 0, .null, .null, .null, .null, .null])) :: [(q1, .inl (k 0, 16, .inl (fun _ => 0)))]) H := hP
  have hD : va_D A ((h0, .inr (1, [.ref q1, .null, .int 0, .null, .null, .null, .null, .null])) :: [(q1, .inl (k 0, 16, .inl (fun _ => 0)))]) := hD
  refine lv_aload_n hx hb dX1_init_12 rfl (lv_at hl 0 rfl) ?_
  refine lv_bipush (v := 16) hx hb dX1_init_13 (by decide) ?_
  refine va_newa (atype := .int) (n := 16) (N' := 16) (a0 := (16, .inl (fun _ => 0))) hx hb (hts (.arrayClass .int) (by decide +kernel)) rfl hK hP hD hS hA (fun _ => rfl) (by decide) (by decide) (by decide) (Nat.le_of_ble_eq_true rfl) (Nat.le_of_ble_eq_true rfl) dX1_init_15 (fun q2 cA H hK1 hP hD hS => ?_)
  obtain rfl := ra_int hK hK1
  have hP : va_P D vwCl ((h0, .inr (1, [.ref q1, .null, .int 0, .null, .null, .null, .null, .null])) :: (q1, .inl (k 0, 16, .inl (fun _ => 0))) :: [(q2, .inl (k 0, 16, .inl (fun _ => 0)))]) H := hP
  have hD : va_D A ((h0, .inr (1, [.ref q1, .null, .int 0, .null, .null, .null, .null, .null])) :: (q1, .inl (k 0, 16, .inl (fun _ => 0))) :: [(q2, .inl (k 0, 16, .inl (fun _ => 0)))]) := hD
  refine va_putF (D := D) (ci := 1) (v := .ref q2) (ty := (.array .int)) (C := RX1) (T := TX1) (N := 8) hx hb hts hiRX1 tyX1 tyX1_ok nmX1 hown hK hP hD hS 0 rfl rfl 1 (by decide) hf15 (fun _ h9 => h9) rfl hin rfl (by decide +kernel) rfl rfl (Nat.le_of_ble_eq_true rfl) dX1_init_17 (fun H locs hP hD hS => ?_)
  have hP : va_P D vwCl ((h0, .inr (1, [.ref q1, .ref q2, .int 0, .null, .null, .null, .null, .null])) :: (q1, .inl (k 0, 16, .inl (fun _ => 0))) :: [(q2, .inl (k 0, 16, .inl (fun _ => 0)))]) H := hP
  have hD : va_D A ((h0, .inr (1, [.ref q1, .ref q2, .int 0, .null, .null, .null, .null, .null])) :: (q1, .inl (k 0, 16, .inl (fun _ => 0))) :: [(q2, .inl (k 0, 16, .inl (fun _ => 0)))]) := hD
  refine lv_aload_n hx hb dX1_init_20 rfl (lv_at hl 0 rfl) ?_
  refine lv_iconst (v := 0) hx hb dX1_init_21 (by decide) ?_
  refine va_put (D := D) (ci := 1) (v := .int 0) (ty := .int) (C := RX1) (T := TX1) (N := 8) hx hb hts hiRX1 tyX1 tyX1_ok nmX1 hown hK hP hD hS 0 rfl rfl 2 (by decide) hf18 (fun _ h9 => h9) rfl (by decide +kernel) rfl rfl (Nat.le_of_ble_eq_true rfl) dX1_init_22 (fun H locs hP hD hS => ?_)
  have hP : va_P D vwCl ((h0, .inr (1, [.ref q1, .ref q2, .int 0, .null, .null, .null, .null, .null])) :: (q1, .inl (k 0, 16, .inl (fun _ => 0))) :: [(q2, .inl (k 0, 16, .inl (fun _ => 0)))]) H := hP
  have hD : va_D A ((h0, .inr (1, [.ref q1, .ref q2, .int 0, .null, .null, .null, .null, .null])) :: (q1, .inl (k 0, 16, .inl (fun _ => 0))) :: [(q2, .inl (k 0, 16, .inl (fun _ => 0)))]) := hD
  refine lv_aload_n hx hb dX1_init_25 rfl (lv_at hl 0 rfl) ?_
  refine lv_bipush (v := 8) hx hb dX1_init_26 (by decide) ?_
  refine va_newa (atype := .int) (n := 8) (N' := 8) (a0 := (8, .inl (fun _ => 0))) hx hb (hts (.arrayClass .int) (by decide +kernel)) rfl hK hP hD hS hA (fun _ => rfl) (by decide) (by decide) (by decide) (Nat.le_of_ble_eq_true rfl) (Nat.le_of_ble_eq_true rfl) dX1_init_28 (fun q3 cA H hK1 hP hD hS => ?_)
  obtain rfl := ra_int hK hK1
  have hP : va_P D vwCl ((h0, .inr (1, [.ref q1, .ref q2, .int 0, .null, .null, .null, .null, .null])) :: (q1, .inl (k 0, 16, .inl (fun _ => 0))) :: (q2, .inl (k 0, 16, .inl (fun _ => 0))) :: [(q3, .inl (k 0, 8, .inl (fun _ => 0)))]) H := hP
  have hD : va_D A ((h0, .inr (1, [.ref q1, .ref q2, .int 0, .null, .null, .null, .null, .null])) :: (q1, .inl (k 0, 16, .inl (fun _ => 0))) :: (q2, .inl (k 0, 16, .inl (fun _ => 0))) :: [(q3, .inl (k 0, 8, .inl (fun _ => 0)))]) := hD
  refine va_putF (D := D) (ci := 1) (v := .ref q3) (ty := (.array .int)) (C := RX1) (T := TX1) (N := 8) hx hb hts hiRX1 tyX1 tyX1_ok nmX1 hown hK hP hD hS 0 rfl rfl 3 (by decide) hf22 (fun _ h9 => h9) rfl hin rfl (by decide +kernel) rfl rfl (Nat.le_of_ble_eq_true rfl) dX1_init_30 (fun H locs hP hD hS => ?_)
  have hP : va_P D vwCl ((h0, .inr (1, [.ref q1, .ref q2, .int 0, .ref q3, .null, .null, .null, .null])) :: (q1, .inl (k 0, 16, .inl (fun _ => 0))) :: (q2, .inl (k 0, 16, .inl (fun _ => 0))) :: [(q3, .inl (k 0, 8, .inl (fun _ => 0)))]) H := hP
  have hD : va_D A ((h0, .inr (1, [.ref q1, .ref q2, .int 0, .ref q3, .null, .null, .null, .null])) :: (q1, .inl (k 0, 16, .inl (fun _ => 0))) :: (q2, .inl (k 0, 16, .inl (fun _ => 0))) :: [(q3, .inl (k 0, 8, .inl (fun _ => 0)))]) := hD
  refine lv_aload_n hx hb dX1_init_33 rfl (lv_at hl 0 rfl) ?_
  refine lv_bipush (v := 8) hx hb dX1_init_34 (by decide) ?_
  refine va_newa (atype := .int) (n := 8) (N' := 8) (a0 := (8, .inl (fun _ => 0))) hx hb (hts (.arrayClass .int) (by decide +kernel)) rfl hK hP hD hS hA (fun _ => rfl) (by decide) (by decide) (by decide) (Nat.le_of_ble_eq_true rfl) (Nat.le_of_ble_eq_true rfl) dX1_init_36 (fun q4 cA H hK1 hP hD hS => ?_)
  obtain rfl := ra_int hK hK1
  have hP : va_P D vwCl ((h0, .inr (1, [.ref q1, .ref q2, .int 0, .ref q3, .null, .null, .null, .null])) :: (q1, .inl (k 0, 16, .inl (fun _ => 0))) :: (q2, .inl (k 0, 16, .inl (fun _ => 0))) :: (q3, .inl (k 0, 8, .inl (fun _ => 0))) :: [(q4, .inl (k 0, 8, .inl (fun _ => 0)))]) H := hP
  have hD : va_D A ((h0, .inr (1, [.ref q1, .ref q2, .int 0, .ref q3, .null, .null, .null, .null])) :: (q1, .inl (k 0, 16, .inl (fun _ => 0))) :: (q2, .inl (k 0, 16, .inl (fun _ => 0))) :: (q3, .inl (k 0, 8, .inl (fun _ => 0))) :: [(q4, .inl (k 0, 8, .inl (fun _ => 0)))]) := hD
  refine va_putF (D := D) (ci := 1) (v := .ref q4) (ty := (.array .int)) (C := RX1) (T := TX1) (N := 8) hx hb hts hiRX1 tyX1 tyX1_ok nmX1 hown hK hP hD hS 0 rfl rfl 4 (by decide) hf25 (fun _ h9 => h9) rfl hin rfl (by decide +kernel) rfl rfl (Nat.le_of_ble_eq_true rfl) dX1_init_38 (fun H locs hP hD hS => ?_)
  have hP : va_P D vwCl ((h0, .inr (1, [.ref q1, .ref q2, .int 0, .ref q3, .ref q4, .null, .null, .null])) :: (q1, .inl (k 0, 16, .inl (fun _ => 0))) :: (q2, .inl (k 0, 16, .inl (fun _ => 0))) :: (q3, .inl (k 0, 8, .inl (fun _ => 0))) :: [(q4, .inl (k 0, 8, .inl (fun _ => 0)))]) H := hP
  have hD : va_D A ((h0, .inr (1, [.ref q1, .ref q2, .int 0, .ref q3, .ref q4, .null, .null, .null])) :: (q1, .inl (k 0, 16, .inl (fun _ => 0))) :: (q2, .inl (k 0, 16, .inl (fun _ => 0))) :: (q3, .inl (k 0, 8, .inl (fun _ => 0))) :: [(q4, .inl (k 0, 8, .inl (fun _ => 0)))]) := hD
  refine lv_aload_n hx hb dX1_init_41 rfl (lv_at hl 0 rfl) ?_
  refine lv_bipush (v := 8) hx hb dX1_init_42 (by decide) ?_
  refine va_newa (atype := .int) (n := 8) (N' := 8) (a0 := (8, .inl (fun _ => 0))) hx hb (hts (.arrayClass .int) (by decide +kernel)) rfl hK hP hD hS hA (fun _ => rfl) (by decide) (by decide) (by decide) (Nat.le_of_ble_eq_true rfl) (Nat.le_of_ble_eq_true rfl) dX1_init_44 (fun q5 cA H hK1 hP hD hS => ?_)
  obtain rfl := ra_int hK hK1
  have hP : va_P D vwCl ((h0, .inr (1, [.ref q1, .ref q2, .int 0, .ref q3, .ref q4, .null, .null, .null])) :: (q1, .inl (k 0, 16, .inl (fun _ => 0))) :: (q2, .inl (k 0, 16, .inl (fun _ => 0))) :: (q3, .inl (k 0, 8, .inl (fun _ => 0))) :: (q4, .inl (k 0, 8, .inl (fun _ => 0))) :: [(q5, .inl (k 0, 8, .inl (fun _ => 0)))]) H := hP
  have hD : va_D A ((h0, .inr (1, [.ref q1, .ref q2, .int 0, .ref q3, .ref q4, .null, .null, .null])) :: (q1, .inl (k 0, 16, .inl (fun _ => 0))) :: (q2, .inl (k 0, 16, .inl (fun _ => 0))) :: (q3, .inl (k 0, 8, .inl (fun _ => 0))) :: (q4, .inl (k 0, 8, .inl (fun _ => 0))) :: [(q5, .inl (k 0, 8, .inl (fun _ => 0)))]) := hD
  refine va_putF (D := D) (ci := 1) (v := .ref q5) (ty := (.array .int)) (C := RX1) (T := TX1) (N := 8) hx hb hts hiRX1 tyX1 tyX1_ok nmX1 hown hK hP hD hS 0 rfl rfl 5 (by decide) hf28 (fun _ h9 => h9) rfl hin rfl (by decide +kernel) rfl rfl (Nat.le_of_ble_eq_true rfl) dX1_init_46 (fun H locs hP hD hS => ?_)
  have hP : va_P D vwCl ((h0, .inr (1, [.ref q1, .ref q2, .int 0, .ref q3, .ref q4, .ref q5, .null, .null])) :: (q1, .inl (k 0, 16, .inl (fun _ => 0))) :: (q2, .inl (k 0, 16, .inl (fun _ => 0))) :: (q3, .inl (k 0, 8, .inl (fun _ => 0))) :: (q4, .inl (k 0, 8, .inl (fun _ => 0))) :: [(q5, .inl (k 0, 8, .inl (fun _ => 0)))]) H := hP
  have hD : va_D A ((h0, .inr (1, [.ref q1, .ref q2, .int 0, .ref q3, .ref q4, .ref q5, .null, .null])) :: (q1, .inl (k 0, 16, .inl (fun _ => 0))) :: (q2, .inl (k 0, 16, .inl (fun _ => 0))) :: (q3, .inl (k 0, 8, .inl (fun _ => 0))) :: (q4, .inl (k 0, 8, .inl (fun _ => 0))) :: [(q5, .inl (k 0, 8, .inl (fun _ => 0)))]) := hD
  refine lv_aload_n hx hb dX1_init_49 rfl (lv_at hl 0 rfl) ?_
  refine lv_bipush (v := 8) hx hb dX1_init_50 (by decide) ?_
  refine va_newa (atype := .long) (n := 8) (N' := 8) (a0 := (8, .inr (.inl (fun _ => 0)))) hx hb (hts (.arrayClass .long) (by decide +kernel)) rfl hK hP hD hS hA (fun _ => rfl) (by decide) (by decide) (by decide) (Nat.le_of_ble_eq_true rfl) (Nat.le_of_ble_eq_true rfl) dX1_init_52 (fun q6 cA H hK1 hP hD hS => ?_)
  obtain rfl := ra_long hK hK1
  have hP : va_P D vwCl ((h0, .inr (1, [.ref q1, .ref q2, .int 0, .ref q3, .ref q4, .ref q5, .null, .null])) :: (q1, .inl (k 0, 16, .inl (fun _ => 0))) :: (q2, .inl (k 0, 16, .inl (fun _ => 0))) :: (q3, .inl (k 0, 8, .inl (fun _ => 0))) :: (q4, .inl (k 0, 8, .inl (fun _ => 0))) :: (q5, .inl (k 0, 8, .inl (fun _ => 0))) :: [(q6, .inl (k 1, 8, .inr (.inl (fun _ => 0))))]) H := hP
  have hD : va_D A ((h0, .inr (1, [.ref q1, .ref q2, .int 0, .ref q3, .ref q4, .ref q5, .null, .null])) :: (q1, .inl (k 0, 16, .inl (fun _ => 0))) :: (q2, .inl (k 0, 16, .inl (fun _ => 0))) :: (q3, .inl (k 0, 8, .inl (fun _ => 0))) :: (q4, .inl (k 0, 8, .inl (fun _ => 0))) :: (q5, .inl (k 0, 8, .inl (fun _ => 0))) :: [(q6, .inl (k 1, 8, .inr (.inl (fun _ => 0))))]) := hD
  refine va_putF (D := D) (ci := 1) (v := .ref q6) (ty := (.array .long)) (C := RX1) (T := TX1) (N := 8) hx hb hts hiRX1 tyX1 tyX1_ok nmX1 hown hK hP hD hS 0 rfl rfl 6 (by decide) hf31 (fun _ h9 => h9) rfl hin rfl (by decide +kernel) rfl rfl (Nat.le_of_ble_eq_true rfl) dX1_init_54 (fun H locs hP hD hS => ?_)
  have hP : va_P D vwCl ((h0, .inr (1, [.ref q1, .ref q2, .int 0, .ref q3, .ref q4, .ref q5, .ref q6, .null])) :: (q1, .inl (k 0, 16, .inl (fun _ => 0))) :: (q2, .inl (k 0, 16, .inl (fun _ => 0))) :: (q3, .inl (k 0, 8, .inl (fun _ => 0))) :: (q4, .inl (k 0, 8, .inl (fun _ => 0))) :: (q5, .inl (k 0, 8, .inl (fun _ => 0))) :: [(q6, .inl (k 1, 8, .inr (.inl (fun _ => 0))))]) H := hP
  have hD : va_D A ((h0, .inr (1, [.ref q1, .ref q2, .int 0, .ref q3, .ref q4, .ref q5, .ref q6, .null])) :: (q1, .inl (k 0, 16, .inl (fun _ => 0))) :: (q2, .inl (k 0, 16, .inl (fun _ => 0))) :: (q3, .inl (k 0, 8, .inl (fun _ => 0))) :: (q4, .inl (k 0, 8, .inl (fun _ => 0))) :: (q5, .inl (k 0, 8, .inl (fun _ => 0))) :: [(q6, .inl (k 1, 8, .inr (.inl (fun _ => 0))))]) := hD
  refine lv_aload_n hx hb dX1_init_57 rfl (lv_at hl 0 rfl) ?_
  refine lv_sipush (v := 512) hx hb dX1_init_58 (by decide) ?_
  refine va_newa (atype := .int) (n := 512) (N' := 512) (a0 := (512, .inl (fun _ => 0))) hx hb (hts (.arrayClass .int) (by decide +kernel)) rfl hK hP hD hS hA (fun _ => rfl) (by decide) (by decide) (by decide) (Nat.le_of_ble_eq_true rfl) (Nat.le_of_ble_eq_true rfl) dX1_init_61 (fun q7 cA H hK1 hP hD hS => ?_)
  obtain rfl := ra_int hK hK1
  have hP : va_P D vwCl ((h0, .inr (1, [.ref q1, .ref q2, .int 0, .ref q3, .ref q4, .ref q5, .ref q6, .null])) :: (q1, .inl (k 0, 16, .inl (fun _ => 0))) :: (q2, .inl (k 0, 16, .inl (fun _ => 0))) :: (q3, .inl (k 0, 8, .inl (fun _ => 0))) :: (q4, .inl (k 0, 8, .inl (fun _ => 0))) :: (q5, .inl (k 0, 8, .inl (fun _ => 0))) :: (q6, .inl (k 1, 8, .inr (.inl (fun _ => 0)))) :: [(q7, .inl (k 0, 512, .inl (fun _ => 0)))]) H := hP
  have hD : va_D A ((h0, .inr (1, [.ref q1, .ref q2, .int 0, .ref q3, .ref q4, .ref q5, .ref q6, .null])) :: (q1, .inl (k 0, 16, .inl (fun _ => 0))) :: (q2, .inl (k 0, 16, .inl (fun _ => 0))) :: (q3, .inl (k 0, 8, .inl (fun _ => 0))) :: (q4, .inl (k 0, 8, .inl (fun _ => 0))) :: (q5, .inl (k 0, 8, .inl (fun _ => 0))) :: (q6, .inl (k 1, 8, .inr (.inl (fun _ => 0)))) :: [(q7, .inl (k 0, 512, .inl (fun _ => 0)))]) := hD
  refine va_putF (D := D) (ci := 1) (v := .ref q7) (ty := (.array .int)) (C := RX1) (T := TX1) (N := 8) hx hb hts hiRX1 tyX1 tyX1_ok nmX1 hown hK hP hD hS 0 rfl rfl 7 (by decide) hf35 (fun _ h9 => h9) rfl hin rfl (by decide +kernel) rfl rfl (Nat.le_of_ble_eq_true rfl) dX1_init_63 (fun H locs hP hD hS => ?_)
  have hP : va_P D vwCl ((h0, .inr (1, [.ref q1, .ref q2, .int 0, .ref q3, .ref q4, .ref q5, .ref q6, .ref q7])) :: (q1, .inl (k 0, 16, .inl (fun _ => 0))) :: (q2, .inl (k 0, 16, .inl (fun _ => 0))) :: (q3, .inl (k 0, 8, .inl (fun _ => 0))) :: (q4, .inl (k 0, 8, .inl (fun _ => 0))) :: (q5, .inl (k 0, 8, .inl (fun _ => 0))) :: (q6, .inl (k 1, 8, .inr (.inl (fun _ => 0)))) :: [(q7, .inl (k 0, 512, .inl (fun _ => 0)))]) H := hP
  have hD : va_D A ((h0, .inr (1, [.ref q1, .ref q2, .int 0, .ref q3, .ref q4, .ref q5, .ref q6, .ref q7])) :: (q1, .inl (k 0, 16, .inl (fun _ => 0))) :: (q2, .inl (k 0, 16, .inl (fun _ => 0))) :: (q3, .inl (k 0, 8, .inl (fun _ => 0))) :: (q4, .inl (k 0, 8, .inl (fun _ => 0))) :: (q5, .inl (k 0, 8, .inl (fun _ => 0))) :: (q6, .inl (k 1, 8, .inr (.inl (fun _ => 0)))) :: [(q7, .inl (k 0, 512, .inl (fun _ => 0)))]) := hD
  obtain ⟨a, ha⟩ : ∃ a : Nat → Nat, a = fun n => ([h0, q1, q2, q3, q4, q5, q6, q7] : List Nat).getD n 0 := ⟨_, rfl⟩
  have ha0 : a 0 = h0 := by rw [ha]; rfl
  have hP : va_P D vwCl (sceneW k a ((fun _ => (0 : Int32)), (fun _ => (0 : Int32)), (0 : Int32), (fun _ => (0 : Int32)), (fun _ => (0 : Int32)), (fun _ => (0 : Int32)), (fun _ => (0 : Int64)), (fun _ => (0 : Int32)))) H := by rw [ha]; exact hP.sub [0, 1, 2, 3, 4, 5, 6, 7] rfl
  have hD : va_D A (sceneW k a ((fun _ => (0 : Int32)), (fun _ => (0 : Int32)), (0 : Int32), (fun _ => (0 : Int32)), (fun _ => (0 : Int32)), (fun _ => (0 : Int32)), (fun _ => (0 : Int64)), (fun _ => (0 : Int32)))) := by rw [ha]; exact hD.sub [0, 1, 2, 3, 4, 5, 6, 7] (by decide) rfl
  have hl : lv_has ls 2 [(0, .ref (a 0))] := by rw [ha]; exact hl
  refine lv_iconst (v := 0) hx hb dX1_init_66 (by decide) ?_
  refine lv_istore_n (lv' := [(1, .int 0), (0, .ref (a 0))]) hx hb dX1_init_67 rfl hl (by decide) rfl (fun ls hl => ?_)
  obtain ⟨x1, h2, h⟩ := bd_s h
  have K20 : ∀ (ls : Array Slot) (H : Heap) (locs : List Loc), lv_has ls 2 [(0, .ref (a 0))] → va_P D vwCl (sceneW k a x1) H → va_D A (sceneW k a x1) → va_S A s.heap H locs → W p l e rm_X1_init s m args below meth c H locs 7 576 Q (F0 m 88 ls []) := by
    intro ls H locs hl hP hD hS
    refine lv_iconst (v := 0) hx hb dX1_init_88 (by decide) ?_
    refine lv_istore_n (lv' := [(1, .int 0), (0, .ref (a 0))]) hx hb dX1_init_89 rfl hl (by decide) rfl (fun ls hl => ?_)
    obtain ⟨x8, h9, h⟩ := bd_s h
    have K17 : ∀ (ls : Array Slot) (H : Heap) (locs : List Loc), lv_has ls 2 [] → va_P D vwCl (sceneW k a x8) H → va_D A (sceneW k a x8) → va_S A s.heap H locs → W p l e rm_X1_init s m args below meth c H locs 7 576 Q (F0 m 111 ls []) := by
      intro ls H locs hl hP hD hS
      obtain rfl := Option.some.inj h
      exact hQ _ _ _ _ a dX1_init_111 ha0 hP hD hS
    refine lp_W (P := fun z10 => ∀ (ls : Array Slot) (H : Heap) (locs : List Loc), lv_has ls 2 [(0, .ref (a 0)), (1, .int z10.1)] → va_P D vwCl (sceneW k a z10.2) H → va_D A (sceneW k a z10.2) → va_S A s.heap H locs → W p l e rm_X1_init s m args below meth c H locs 7 576 Q (F0 m 90 ls [])) (E := fun x8 => ∀ (ls : Array Slot) (H : Heap) (locs : List Loc), lv_has ls 2 [] → va_P D vwCl (sceneW k a x8) H → va_D A (sceneW k a x8) → va_S A s.heap H locs → W p l e rm_X1_init s m args below meth c H locs 7 576 Q (F0 m 111 ls [])) (fun z10 xx12 hB11 kI13 kE14 => ?_) _ _ _ h9 K17 ls H locs (lv_sub hl [1, 0] rfl) hP hD hS
    intro ls H locs hl hP hD hS
    unfold f_X1_init_L90 at hB11
    refine lv_iload_n hx hb dX1_init_90 rfl (lv_at hl 1 rfl) ?_
    refine lv_sipush (v := 512) hx hb dX1_init_91 (by decide) ?_
    refine lv_icmp_ge (tgt := 111) hx hb dX1_init_94 (by decide) (fun c15 => ?_) (fun c15 => ?_)
    · have hB11 := if_t hB11 c15
      exact kE14 _ (Option.some.inj hB11).symm ls H locs (lv_sub hl [] rfl) hP hD hS
    · have hB11 := if_f hB11 c15
      refine lv_aload_n hx hb dX1_init_97 rfl (lv_at hl 0 rfl) ?_
      refine va_get (D := D) (ci := 1) (v := .ref (a 7)) (C := RX1) (T := TX1) (N := 8) hx hb hts hiRX1 hown hK hP 0 rfl rfl 7 (by decide) hf35 (fun _ h9 => h9) rfl dX1_init_98 ?_
      refine lv_iload_n hx hb dX1_init_101 rfl (lv_at hl 1 rfl) ?_
      refine lv_bipush (v := (-6)) hx hb dX1_init_102 (by decide) ?_
      obtain ⟨c16, hB11⟩ := gd_s hB11
      refine va_iast (D := D) hx hb hK hP hD hS 7 0 rfl rfl (ix_in c16) dX1_init_104 (fun H locs hP hD hS => ?_)
      have hP : va_P D vwCl (sceneW k a ((z10.2).1, (z10.2).2.1, (z10.2).2.2.1, (z10.2).2.2.2.1, (z10.2).2.2.2.2.1, (z10.2).2.2.2.2.2.1, (z10.2).2.2.2.2.2.2.1, (upd ((z10.2).2.2.2.2.2.2.2) (z10.1 : Int32).toNatClampNeg (-6)))) H := hP
      have hD : va_D A (sceneW k a ((z10.2).1, (z10.2).2.1, (z10.2).2.2.1, (z10.2).2.2.2.1, (z10.2).2.2.2.2.1, (z10.2).2.2.2.2.2.1, (z10.2).2.2.2.2.2.2.1, (upd ((z10.2).2.2.2.2.2.2.2) (z10.1 : Int32).toNatClampNeg (-6)))) := hD
      refine lv_iinc (v := (z10.1 + 1)) (lv' := [(1, .int (z10.1 + 1)), (0, .ref (a 0))]) hx hb dX1_init_105 hl (k := 1) rfl rfl (by decide) rfl (fun ls hl => ?_)
      refine lv_goto (tgt := 90) hx hb dX1_init_108 (by decide) ?_
      exact kI13 _ (Option.some.inj hB11).symm ls H locs (lv_sub hl [1, 0] rfl) hP hD hS
  refine lp_W (P := fun z3 => ∀ (ls : Array Slot) (H : Heap) (locs : List Loc), lv_has ls 2 [(0, .ref (a 0)), (1, .int z3.1)] → va_P D vwCl (sceneW k a z3.2) H → va_D A (sceneW k a z3.2) → va_S A s.heap H locs → W p l e rm_X1_init s m args below meth c H locs 7 576 Q (F0 m 68 ls [])) (E := fun x1 => ∀ (ls : Array Slot) (H : Heap) (locs : List Loc), lv_has ls 2 [(0, .ref (a 0))] → va_P D vwCl (sceneW k a x1) H → va_D A (sceneW k a x1) → va_S A s.heap H locs → W p l e rm_X1_init s m args below meth c H locs 7 576 Q (F0 m 88 ls [])) (fun z3 xx5 hB4 kI6 kE7 => ?_) _ _ _ h2 K20 ls H locs (lv_sub hl [1, 0] rfl) hP hD hS
  intro ls H locs hl hP hD hS
  unfold f_X1_init_L68 at hB4
  refine lv_iload_n hx hb dX1_init_68 rfl (lv_at hl 1 rfl) ?_
  refine lv_bipush (v := 16) hx hb dX1_init_69 (by decide) ?_
  refine lv_icmp_ge (tgt := 88) hx hb dX1_init_71 (by decide) (fun c18 => ?_) (fun c18 => ?_)
  · have hB4 := if_t hB4 c18
    exact kE7 _ (Option.some.inj hB4).symm ls H locs (lv_sub hl [0] rfl) hP hD hS
  · have hB4 := if_f hB4 c18
    refine lv_aload_n hx hb dX1_init_74 rfl (lv_at hl 0 rfl) ?_
    refine va_get (D := D) (ci := 1) (v := .ref (a 2)) (C := RX1) (T := TX1) (N := 8) hx hb hts hiRX1 hown hK hP 0 rfl rfl 1 (by decide) hf15 (fun _ h9 => h9) rfl dX1_init_75 ?_
    refine lv_iload_n hx hb dX1_init_78 rfl (lv_at hl 1 rfl) ?_
    refine lv_bipush (v := 15) hx hb dX1_init_79 (by decide) ?_
    obtain ⟨c19, hB4⟩ := gd_s hB4
    refine va_iast (D := D) hx hb hK hP hD hS 2 0 rfl rfl (ix_in c19) dX1_init_81 (fun H locs hP hD hS => ?_)
    have hP : va_P D vwCl (sceneW k a ((z3.2).1, (upd ((z3.2).2.1) (z3.1 : Int32).toNatClampNeg 15), (z3.2).2.2)) H := hP
    have hD : va_D A (sceneW k a ((z3.2).1, (upd ((z3.2).2.1) (z3.1 : Int32).toNatClampNeg 15), (z3.2).2.2)) := hD
    refine lv_iinc (v := (z3.1 + 1)) (lv' := [(1, .int (z3.1 + 1)), (0, .ref (a 0))]) hx hb dX1_init_82 hl (k := 1) rfl rfl (by decide) rfl (fun ls hl => ?_)
    refine lv_goto (tgt := 68) hx hb dX1_init_85 (by decide) ?_
    exact kI6 _ (Option.some.inj hB4).symm ls H locs (lv_sub hl [1, 0] rfl) hP hD hS

abbrev rm_X5_init : Room := { frames := 1, cells := 14, slots := 3250, locals := 12 }
def f_X5_init_L120 (z : Int32 × ModelV) : Option ((Int32 × ModelV) ⊕ (ModelV)) := if 16 ≤ z.1 then (some (.inr z.2)) else (gd (ix z.1 16) (some (.inl ((z.1 + 1), ((z.2).1, (upd ((z.2).2.1) (z.1 : Int32).toNatClampNeg 15), (z.2).2.2)))))
def f_X5_init_L142 (z : Int32 × ModelV) : Option ((Int32 × ModelV) ⊕ (ModelV)) := if 512 ≤ z.1 then (some (.inr z.2)) else (gd (ix z.1 512) (some (.inl ((z.1 + 1), ((z.2).1, (z.2).2.1, (z.2).2.2.1, (z.2).2.2.2.1, (z.2).2.2.2.2.1, (z.2).2.2.2.2.2.1, (z.2).2.2.2.2.2.2.1, (upd ((z.2).2.2.2.2.2.2.2.1) (z.1 : Int32).toNatClampNeg (-6)), (z.2).2.2.2.2.2.2.2.2)))))
def f_X5_init : Option ModelV := (lp (f_X5_init_L120) fu (0, ((fun _ => (0 : Int32)), (fun _ => (0 : Int32)), (0 : Int32), (fun _ => (0 : Int32)), (fun _ => (0 : Int32)), (fun _ => (0 : Int32)), (fun _ => (0 : Int32)), (fun _ => (0 : Int32)), (fun _ => (0 : Int32)), (0 : Int32), (0 : Int32), (0 : Int32), (0 : Int32), (fun _ => (0 : Int32)), (fun _ => (0 : Int32)), (fun _ => (0 : Int32)), (fun _ => (0 : Int32)), (fun _ => (0 : Int32)), (fun _ => (0 : Int32))))).bind (fun x1 => (lp (f_X5_init_L142) fu (0, x1)).bind (fun x8 => some x8))
set_option maxHeartbeats 4000000 in
set_option maxRecDepth 100000 in
theorem c_X5_init (l : Launch) (D : va_G) (k : Nat → ClassId) (h0 sz : Nat) (M0 : ModelV) (h : f_X5_init = some M0) : Met l yX5_init wsX5_init rm_X5_init (va_Pc [.ref h0] (CB D k sz [(h0, .inr (5, [.null, .null, .int 0, .null, .null, .null, .null, .null, .null, .int 0, .int 0, .int 0, .int 0, .null, .null, .null, .null, .null, .null]))])) (QC D [(h0, .inr (5, [.null, .null, .int 0, .null, .null, .null, .null, .null, .null, .int 0, .int 0, .int 0, .int 0, .null, .null, .null, .null, .null, .null]))] sz h0 (fun a => modelW k a M0)) 14 3250 (va_A [(h0, .inr (5, [.null, .null, .int 0, .null, .null, .null, .null, .null, .null, .int 0, .int 0, .int 0, .int 0, .null, .null, .null, .null, .null, .null]))] sz) := by
  refine met_C (by decide) rfl rfl (Nat.le_of_ble_eq_true rfl) ?_
  intro p e s m below meth c Q args ls A hx hb hml hown hts hin hP hK hN hA1 hA2 hD hA hl hQ
  have hown : s.vm.findClass RX5 = some m.cls := hown
  have hS : va_S A s.heap s.heap [] := va_S.rf
  have hiRX5 : ∀ w ∈ u_ws RX5 TX5 19, w ∈ wsX5_init := by decide +kernel
  have hf7 := hts (.fieldLink RX5 7 "RainCellsModel" "from" "[I") (by decide +kernel)
  have hf13 := hts (.fieldLink RX5 13 "RainCellsModel" "to" "[I") (by decide +kernel)
  have hf16 := hts (.fieldLink RX5 16 "RainCellsModel" "px" "[I") (by decide +kernel)
  have hf19 := hts (.fieldLink RX5 19 "RainCellsModel" "py" "[I") (by decide +kernel)
  have hf22 := hts (.fieldLink RX5 22 "RainCellsModel" "reach" "[I") (by decide +kernel)
  have hf25 := hts (.fieldLink RX5 25 "RainCellsModel" "isOut" "[Z") (by decide +kernel)
  have hf29 := hts (.fieldLink RX5 29 "RainCellsModel" "readings" "[I") (by decide +kernel)
  have hf32 := hts (.fieldLink RX5 32 "RainCellsModel" "sets" "[I") (by decide +kernel)
  have hf35 := hts (.fieldLink RX5 35 "RainCellsModel" "isKept" "[Z") (by decide +kernel)
  have hf38 := hts (.fieldLink RX5 38 "RainCellsModel" "imageRows" "[I") (by decide +kernel)
  have hf41 := hts (.fieldLink RX5 41 "RainCellsModel" "imageMany" "[I") (by decide +kernel)
  have hf44 := hts (.fieldLink RX5 44 "RainCellsModel" "imageGauges" "[I") (by decide +kernel)
  have hf47 := hts (.fieldLink RX5 47 "RainCellsModel" "imageOut" "[Z") (by decide +kernel)
  have hf50 := hts (.fieldLink RX5 50 "RainCellsModel" "imageReadings" "[I") (by decide +kernel)
  unfold f_X5_init at h
  refine lv_aload_n hx hb dX5_init_0 rfl (lv_at hl 0 rfl) ?_
  refine W.objInit hx hb hown (hts (.methodLink RX5 1 objectInit) (by decide +kernel)) (hts (.instanceMethod objectInit) (by decide +kernel)) (hts _ (List.mem_of_getElem? (i := 3) rfl)) rfl (by rw [hml]; exact hl.1) rfl dX5_init_1 (Nat.le_of_ble_eq_true rfl) (Nat.le_of_ble_eq_true rfl) ?_
  refine W.eq (g2 := F0 m 4 ls []) rfl ?_
  refine lv_aload_n hx hb dX5_init_4 rfl (lv_at hl 0 rfl) ?_
  refine lv_bipush (v := 16) hx hb dX5_init_5 (by decide) ?_
  refine va_newa (atype := .int) (n := 16) (N' := 16) (a0 := (16, .inl (fun _ => 0))) hx hb (hts (.arrayClass .int) (by decide +kernel)) rfl hK hP hD hS hA (fun _ => rfl) (by decide) (by decide) (by decide) (Nat.le_of_ble_eq_true rfl) (Nat.le_of_ble_eq_true rfl) dX5_init_7 (fun q1 cA H hK1 hP hD hS => ?_)
  obtain rfl := ra_int hK hK1
  have hP : va_P D vwCl ((h0, .inr (5, [.null, .null, .int 0, .null, .null, .null, .null, .null, .null, .int 0, .int 0, .int 0, .int 0, .null, .null, .null, .null, .null, .null])) :: [(q1, .inl (k 0, 16, .inl (fun _ => 0)))]) H := hP
  have hD : va_D A ((h0, .inr (5, [.null, .null, .int 0, .null, .null, .null, .null, .null, .null, .int 0, .int 0, .int 0, .int 0, .null, .null, .null, .null, .null, .null])) :: [(q1, .inl (k 0, 16, .inl (fun _ => 0)))]) := hD
  refine va_putF (D := D) (ci := 5) (v := .ref q1) (ty := (.array .int)) (C := RX5) (T := TX5) (N := 19) hx hb hts hiRX5 tyX5 tyX5_ok nmX5 hown hK hP hD hS 0 rfl rfl 0 (by decide) hf7 (fun _ h9 => h9) rfl hin rfl (by decide +kernel) rfl rfl (Nat.le_of_ble_eq_true rfl) dX5_init_9 (fun H locs hP hD hS => ?_)
  have hP : va_P D vwCl ((h0, .inr (5, [.ref q1, .null, .int 0, .null, .null, .null, .null, .null, .null, .int 0, .int 0, .int 0, .int 0, .null, .null, .null, .null, .null, .null])) :: [(q1, .inl (k 0, 16, .inl (fun _ => 0)))]) H := hP
  have hD : va_D A ((h0, .inr (5, [.ref q1, .null, .int 0, .null, .null, .null, .null, .null, .null, .int 0, .int 0, .int 0, .int 0, .null, .null, .null, .null, .null, .null])) :: [(q1, .inl (k 0, 16, .inl (fun _ => 0)))]) := hD
  refine lv_aload_n hx hb dX5_init_12 rfl (lv_at hl 0 rfl) ?_
  refine lv_bipush (v := 16) hx hb dX5_init_13 (by decide) ?_
  refine va_newa (atype := .int) (n := 16) (N' := 16) (a0 := (16, .inl (fun _ => 0))) hx hb (hts (.arrayClass .int) (by decide +kernel)) rfl hK hP hD hS hA (fun _ => rfl) (by decide) (by decide) (by decide) (Nat.le_of_ble_eq_true rfl) (Nat.le_of_ble_eq_true rfl) dX5_init_15 (fun q2 cA H hK1 hP hD hS => ?_)
  obtain rfl := ra_int hK hK1
  have hP : va_P D vwCl ((h0, .inr (5, [.ref q1, .null, .int 0, .null, .null, .null, .null, .null, .null, .int 0, .int 0, .int 0, .int 0, .null, .null, .null, .null, .null, .null])) :: (q1, .inl (k 0, 16, .inl (fun _ => 0))) :: [(q2, .inl (k 0, 16, .inl (fun _ => 0)))]) H := hP
  have hD : va_D A ((h0, .inr (5, [.ref q1, .null, .int 0, .null, .null, .null, .null, .null, .null, .int 0, .int 0, .int 0, .int 0, .null, .null, .null, .null, .null, .null])) :: (q1, .inl (k 0, 16, .inl (fun _ => 0))) :: [(q2, .inl (k 0, 16, .inl (fun _ => 0)))]) := hD
  refine va_putF (D := D) (ci := 5) (v := .ref q2) (ty := (.array .int)) (C := RX5) (T := TX5) (N := 19) hx hb hts hiRX5 tyX5 tyX5_ok nmX5 hown hK hP hD hS 0 rfl rfl 1 (by decide) hf13 (fun _ h9 => h9) rfl hin rfl (by decide +kernel) rfl rfl (Nat.le_of_ble_eq_true rfl) dX5_init_17 (fun H locs hP hD hS => ?_)
  have hP : va_P D vwCl ((h0, .inr (5, [.ref q1, .ref q2, .int 0, .null, .null, .null, .null, .null, .null, .int 0, .int 0, .int 0, .int 0, .null, .null, .null, .null, .null, .null])) :: (q1, .inl (k 0, 16, .inl (fun _ => 0))) :: [(q2, .inl (k 0, 16, .inl (fun _ => 0)))]) H := hP
  have hD : va_D A ((h0, .inr (5, [.ref q1, .ref q2, .int 0, .null, .null, .null, .null, .null, .null, .int 0, .int 0, .int 0, .int 0, .null, .null, .null, .null, .null, .null])) :: (q1, .inl (k 0, 16, .inl (fun _ => 0))) :: [(q2, .inl (k 0, 16, .inl (fun _ => 0)))]) := hD
  refine lv_aload_n hx hb dX5_init_20 rfl (lv_at hl 0 rfl) ?_
  refine lv_bipush (v := 8) hx hb dX5_init_21 (by decide) ?_
  refine va_newa (atype := .int) (n := 8) (N' := 8) (a0 := (8, .inl (fun _ => 0))) hx hb (hts (.arrayClass .int) (by decide +kernel)) rfl hK hP hD hS hA (fun _ => rfl) (by decide) (by decide) (by decide) (Nat.le_of_ble_eq_true rfl) (Nat.le_of_ble_eq_true rfl) dX5_init_23 (fun q3 cA H hK1 hP hD hS => ?_)
  obtain rfl := ra_int hK hK1
  have hP : va_P D vwCl ((h0, .inr (5, [.ref q1, .ref q2, .int 0, .null, .null, .null, .null, .null, .null, .int 0, .int 0, .int 0, .int 0, .null, .null, .null, .null, .null, .null])) :: (q1, .inl (k 0, 16, .inl (fun _ => 0))) :: (q2, .inl (k 0, 16, .inl (fun _ => 0))) :: [(q3, .inl (k 0, 8, .inl (fun _ => 0)))]) H := hP
  have hD : va_D A ((h0, .inr (5, [.ref q1, .ref q2, .int 0, .null, .null, .null, .null, .null, .null, .int 0, .int 0, .int 0, .int 0, .null, .null, .null, .null, .null, .null])) :: (q1, .inl (k 0, 16, .inl (fun _ => 0))) :: (q2, .inl (k 0, 16, .inl (fun _ => 0))) :: [(q3, .inl (k 0, 8, .inl (fun _ => 0)))]) := hD
  refine va_putF (D := D) (ci := 5) (v := .ref q3) (ty := (.array .int)) (C := RX5) (T := TX5) (N := 19) hx hb hts hiRX5 tyX5 tyX5_ok nmX5 hown hK hP hD hS 0 rfl rfl 3 (by decide) hf16 (fun _ h9 => h9) rfl hin rfl (by decide +kernel) rfl rfl (Nat.le_of_ble_eq_true rfl) dX5_init_25 (fun H locs hP hD hS => ?_)
  have hP : va_P D vwCl ((h0, .inr (5, [.ref q1, .ref q2, .int 0, .ref q3, .null, .null, .null, .null, .null, .int 0, .int 0, .int 0, .int 0, .null, .null, .null, .null, .null, .null])) :: (q1, .inl (k 0, 16, .inl (fun _ => 0))) :: (q2, .inl (k 0, 16, .inl (fun _ => 0))) :: [(q3, .inl (k 0, 8, .inl (fun _ => 0)))]) H := hP
  have hD : va_D A ((h0, .inr (5, [.ref q1, .ref q2, .int 0, .ref q3, .null, .null, .null, .null, .null, .int 0, .int 0, .int 0, .int 0, .null, .null, .null, .null, .null, .null])) :: (q1, .inl (k 0, 16, .inl (fun _ => 0))) :: (q2, .inl (k 0, 16, .inl (fun _ => 0))) :: [(q3, .inl (k 0, 8, .inl (fun _ => 0)))]) := hD
  refine lv_aload_n hx hb dX5_init_28 rfl (lv_at hl 0 rfl) ?_
  refine lv_bipush (v := 8) hx hb dX5_init_29 (by decide) ?_
  refine va_newa (atype := .int) (n := 8) (N' := 8) (a0 := (8, .inl (fun _ => 0))) hx hb (hts (.arrayClass .int) (by decide +kernel)) rfl hK hP hD hS hA (fun _ => rfl) (by decide) (by decide) (by decide) (Nat.le_of_ble_eq_true rfl) (Nat.le_of_ble_eq_true rfl) dX5_init_31 (fun q4 cA H hK1 hP hD hS => ?_)
  obtain rfl := ra_int hK hK1
  have hP : va_P D vwCl ((h0, .inr (5, [.ref q1, .ref q2, .int 0, .ref q3, .null, .null, .null, .null, .null, .int 0, .int 0, .int 0, .int 0, .null, .null, .null, .null, .null, .null])) :: (q1, .inl (k 0, 16, .inl (fun _ => 0))) :: (q2, .inl (k 0, 16, .inl (fun _ => 0))) :: (q3, .inl (k 0, 8, .inl (fun _ => 0))) :: [(q4, .inl (k 0, 8, .inl (fun _ => 0)))]) H := hP
  have hD : va_D A ((h0, .inr (5, [.ref q1, .ref q2, .int 0, .ref q3, .null, .null, .null, .null, .null, .int 0, .int 0, .int 0, .int 0, .null, .null, .null, .null, .null, .null])) :: (q1, .inl (k 0, 16, .inl (fun _ => 0))) :: (q2, .inl (k 0, 16, .inl (fun _ => 0))) :: (q3, .inl (k 0, 8, .inl (fun _ => 0))) :: [(q4, .inl (k 0, 8, .inl (fun _ => 0)))]) := hD
  refine va_putF (D := D) (ci := 5) (v := .ref q4) (ty := (.array .int)) (C := RX5) (T := TX5) (N := 19) hx hb hts hiRX5 tyX5 tyX5_ok nmX5 hown hK hP hD hS 0 rfl rfl 4 (by decide) hf19 (fun _ h9 => h9) rfl hin rfl (by decide +kernel) rfl rfl (Nat.le_of_ble_eq_true rfl) dX5_init_33 (fun H locs hP hD hS => ?_)
  have hP : va_P D vwCl ((h0, .inr (5, [.ref q1, .ref q2, .int 0, .ref q3, .ref q4, .null, .null, .null, .null, .int 0, .int 0, .int 0, .int 0, .null, .null, .null, .null, .null, .null])) :: (q1, .inl (k 0, 16, .inl (fun _ => 0))) :: (q2, .inl (k 0, 16, .inl (fun _ => 0))) :: (q3, .inl (k 0, 8, .inl (fun _ => 0))) :: [(q4, .inl (k 0, 8, .inl (fun _ => 0)))]) H := hP
  have hD : va_D A ((h0, .inr (5, [.ref q1, .ref q2, .int 0, .ref q3, .ref q4, .null, .null, .null, .null, .int 0, .int 0, .int 0, .int 0, .null, .null, .null, .null, .null, .null])) :: (q1, .inl (k 0, 16, .inl (fun _ => 0))) :: (q2, .inl (k 0, 16, .inl (fun _ => 0))) :: (q3, .inl (k 0, 8, .inl (fun _ => 0))) :: [(q4, .inl (k 0, 8, .inl (fun _ => 0)))]) := hD
  refine lv_aload_n hx hb dX5_init_36 rfl (lv_at hl 0 rfl) ?_
  refine lv_bipush (v := 8) hx hb dX5_init_37 (by decide) ?_
  refine va_newa (atype := .int) (n := 8) (N' := 8) (a0 := (8, .inl (fun _ => 0))) hx hb (hts (.arrayClass .int) (by decide +kernel)) rfl hK hP hD hS hA (fun _ => rfl) (by decide) (by decide) (by decide) (Nat.le_of_ble_eq_true rfl) (Nat.le_of_ble_eq_true rfl) dX5_init_39 (fun q5 cA H hK1 hP hD hS => ?_)
  obtain rfl := ra_int hK hK1
  have hP : va_P D vwCl ((h0, .inr (5, [.ref q1, .ref q2, .int 0, .ref q3, .ref q4, .null, .null, .null, .null, .int 0, .int 0, .int 0, .int 0, .null, .null, .null, .null, .null, .null])) :: (q1, .inl (k 0, 16, .inl (fun _ => 0))) :: (q2, .inl (k 0, 16, .inl (fun _ => 0))) :: (q3, .inl (k 0, 8, .inl (fun _ => 0))) :: (q4, .inl (k 0, 8, .inl (fun _ => 0))) :: [(q5, .inl (k 0, 8, .inl (fun _ => 0)))]) H := hP
  have hD : va_D A ((h0, .inr (5, [.ref q1, .ref q2, .int 0, .ref q3, .ref q4, .null, .null, .null, .null, .int 0, .int 0, .int 0, .int 0, .null, .null, .null, .null, .null, .null])) :: (q1, .inl (k 0, 16, .inl (fun _ => 0))) :: (q2, .inl (k 0, 16, .inl (fun _ => 0))) :: (q3, .inl (k 0, 8, .inl (fun _ => 0))) :: (q4, .inl (k 0, 8, .inl (fun _ => 0))) :: [(q5, .inl (k 0, 8, .inl (fun _ => 0)))]) := hD
  refine va_putF (D := D) (ci := 5) (v := .ref q5) (ty := (.array .int)) (C := RX5) (T := TX5) (N := 19) hx hb hts hiRX5 tyX5 tyX5_ok nmX5 hown hK hP hD hS 0 rfl rfl 5 (by decide) hf22 (fun _ h9 => h9) rfl hin rfl (by decide +kernel) rfl rfl (Nat.le_of_ble_eq_true rfl) dX5_init_41 (fun H locs hP hD hS => ?_)
  have hP : va_P D vwCl ((h0, .inr (5, [.ref q1, .ref q2, .int 0, .ref q3, .ref q4, .ref q5, .null, .null, .null, .int 0, .int 0, .int 0, .int 0, .null, .null, .null, .null, .null, .null])) :: (q1, .inl (k 0, 16, .inl (fun _ => 0))) :: (q2, .inl (k 0, 16, .inl (fun _ => 0))) :: (q3, .inl (k 0, 8, .inl (fun _ => 0))) :: (q4, .inl (k 0, 8, .inl (fun _ => 0))) :: [(q5, .inl (k 0, 8, .inl (fun _ => 0)))]) H := hP
  have hD : va_D A ((h0, .inr (5, [.ref q1, .ref q2, .int 0, .ref q3, .ref q4, .ref q5, .null, .null, .null, .int 0, .int 0, .int 0, .int 0, .null, .null, .null, .null, .null, .null])) :: (q1, .inl (k 0, 16, .inl (fun _ => 0))) :: (q2, .inl (k 0, 16, .inl (fun _ => 0))) :: (q3, .inl (k 0, 8, .inl (fun _ => 0))) :: (q4, .inl (k 0, 8, .inl (fun _ => 0))) :: [(q5, .inl (k 0, 8, .inl (fun _ => 0)))]) := hD
  refine lv_aload_n hx hb dX5_init_44 rfl (lv_at hl 0 rfl) ?_
  refine lv_sipush (v := 512) hx hb dX5_init_45 (by decide) ?_
  refine va_newa (atype := .boolean) (n := 512) (N' := 512) (a0 := (512, .inl (fun _ => 0))) hx hb (hts (.arrayClass .boolean) (by decide +kernel)) rfl hK hP hD hS hA (fun _ => rfl) (by decide) (by decide) (by decide) (Nat.le_of_ble_eq_true rfl) (Nat.le_of_ble_eq_true rfl) dX5_init_48 (fun q6 cA H hK1 hP hD hS => ?_)
  obtain rfl := ra_boolean hK hK1
  have hP : va_P D vwCl ((h0, .inr (5, [.ref q1, .ref q2, .int 0, .ref q3, .ref q4, .ref q5, .null, .null, .null, .int 0, .int 0, .int 0, .int 0, .null, .null, .null, .null, .null, .null])) :: (q1, .inl (k 0, 16, .inl (fun _ => 0))) :: (q2, .inl (k 0, 16, .inl (fun _ => 0))) :: (q3, .inl (k 0, 8, .inl (fun _ => 0))) :: (q4, .inl (k 0, 8, .inl (fun _ => 0))) :: (q5, .inl (k 0, 8, .inl (fun _ => 0))) :: [(q6, .inl (k 2, 512, .inl (fun _ => 0)))]) H := hP
  have hD : va_D A ((h0, .inr (5, [.ref q1, .ref q2, .int 0, .ref q3, .ref q4, .ref q5, .null, .null, .null, .int 0, .int 0, .int 0, .int 0, .null, .null, .null, .null, .null, .null])) :: (q1, .inl (k 0, 16, .inl (fun _ => 0))) :: (q2, .inl (k 0, 16, .inl (fun _ => 0))) :: (q3, .inl (k 0, 8, .inl (fun _ => 0))) :: (q4, .inl (k 0, 8, .inl (fun _ => 0))) :: (q5, .inl (k 0, 8, .inl (fun _ => 0))) :: [(q6, .inl (k 2, 512, .inl (fun _ => 0)))]) := hD
  refine va_putF (D := D) (ci := 5) (v := .ref q6) (ty := (.array .boolean)) (C := RX5) (T := TX5) (N := 19) hx hb hts hiRX5 tyX5 tyX5_ok nmX5 hown hK hP hD hS 0 rfl rfl 6 (by decide) hf25 (fun _ h9 => h9) rfl hin rfl (by decide +kernel) rfl rfl (Nat.le_of_ble_eq_true rfl) dX5_init_50 (fun H locs hP hD hS => ?_)
  have hP : va_P D vwCl ((h0, .inr (5, [.ref q1, .ref q2, .int 0, .ref q3, .ref q4, .ref q5, .ref q6, .null, .null, .int 0, .int 0, .int 0, .int 0, .null, .null, .null, .null, .null, .null])) :: (q1, .inl (k 0, 16, .inl (fun _ => 0))) :: (q2, .inl (k 0, 16, .inl (fun _ => 0))) :: (q3, .inl (k 0, 8, .inl (fun _ => 0))) :: (q4, .inl (k 0, 8, .inl (fun _ => 0))) :: (q5, .inl (k 0, 8, .inl (fun _ => 0))) :: [(q6, .inl (k 2, 512, .inl (fun _ => 0)))]) H := hP
  have hD : va_D A ((h0, .inr (5, [.ref q1, .ref q2, .int 0, .ref q3, .ref q4, .ref q5, .ref q6, .null, .null, .int 0, .int 0, .int 0, .int 0, .null, .null, .null, .null, .null, .null])) :: (q1, .inl (k 0, 16, .inl (fun _ => 0))) :: (q2, .inl (k 0, 16, .inl (fun _ => 0))) :: (q3, .inl (k 0, 8, .inl (fun _ => 0))) :: (q4, .inl (k 0, 8, .inl (fun _ => 0))) :: (q5, .inl (k 0, 8, .inl (fun _ => 0))) :: [(q6, .inl (k 2, 512, .inl (fun _ => 0)))]) := hD
  refine lv_aload_n hx hb dX5_init_53 rfl (lv_at hl 0 rfl) ?_
  refine lv_sipush (v := 512) hx hb dX5_init_54 (by decide) ?_
  refine va_newa (atype := .int) (n := 512) (N' := 512) (a0 := (512, .inl (fun _ => 0))) hx hb (hts (.arrayClass .int) (by decide +kernel)) rfl hK hP hD hS hA (fun _ => rfl) (by decide) (by decide) (by decide) (Nat.le_of_ble_eq_true rfl) (Nat.le_of_ble_eq_true rfl) dX5_init_57 (fun q7 cA H hK1 hP hD hS => ?_)
  obtain rfl := ra_int hK hK1
  have hP : va_P D vwCl ((h0, .inr (5, [.ref q1, .ref q2, .int 0, .ref q3, .ref q4, .ref q5, .ref q6, .null, .null, .int 0, .int 0, .int 0, .int 0, .null, .null, .null, .null, .null, .null])) :: (q1, .inl (k 0, 16, .inl (fun _ => 0))) :: (q2, .inl (k 0, 16, .inl (fun _ => 0))) :: (q3, .inl (k 0, 8, .inl (fun _ => 0))) :: (q4, .inl (k 0, 8, .inl (fun _ => 0))) :: (q5, .inl (k 0, 8, .inl (fun _ => 0))) :: (q6, .inl (k 2, 512, .inl (fun _ => 0))) :: [(q7, .inl (k 0, 512, .inl (fun _ => 0)))]) H := hP
  have hD : va_D A ((h0, .inr (5, [.ref q1, .ref q2, .int 0, .ref q3, .ref q4, .ref q5, .ref q6, .null, .null, .int 0, .int 0, .int 0, .int 0, .null, .null, .null, .null, .null, .null])) :: (q1, .inl (k 0, 16, .inl (fun _ => 0))) :: (q2, .inl (k 0, 16, .inl (fun _ => 0))) :: (q3, .inl (k 0, 8, .inl (fun _ => 0))) :: (q4, .inl (k 0, 8, .inl (fun _ => 0))) :: (q5, .inl (k 0, 8, .inl (fun _ => 0))) :: (q6, .inl (k 2, 512, .inl (fun _ => 0))) :: [(q7, .inl (k 0, 512, .inl (fun _ => 0)))]) := hD
  refine va_putF (D := D) (ci := 5) (v := .ref q7) (ty := (.array .int)) (C := RX5) (T := TX5) (N := 19) hx hb hts hiRX5 tyX5 tyX5_ok nmX5 hown hK hP hD hS 0 rfl rfl 7 (by decide) hf29 (fun _ h9 => h9) rfl hin rfl (by decide +kernel) rfl rfl (Nat.le_of_ble_eq_true rfl) dX5_init_59 (fun H locs hP hD hS => ?_)
  have hP : va_P D vwCl ((h0, .inr (5, [.ref q1, .ref q2, .int 0, .ref q3, .ref q4, .ref q5, .ref q6, .ref q7, .null, .int 0, .int 0, .int 0, .int 0, .null, .null, .null, .null, .null, .null])) :: (q1, .inl (k 0, 16, .inl (fun _ => 0))) :: (q2, .inl (k 0, 16, .inl (fun _ => 0))) :: (q3, .inl (k 0, 8, .inl (fun _ => 0))) :: (q4, .inl (k 0, 8, .inl (fun _ => 0))) :: (q5, .inl (k 0, 8, .inl (fun _ => 0))) :: (q6, .inl (k 2, 512, .inl (fun _ => 0))) :: [(q7, .inl (k 0, 512, .inl (fun _ => 0)))]) H := hP
  have hD : va_D A ((h0, .inr (5, [.ref q1, .ref q2, .int 0, .ref q3, .ref q4, .ref q5, .ref q6, .ref q7, .null, .int 0, .int 0, .int 0, .int 0, .null, .null, .null, .null, .null, .null])) :: (q1, .inl (k 0, 16, .inl (fun _ => 0))) :: (q2, .inl (k 0, 16, .inl (fun _ => 0))) :: (q3, .inl (k 0, 8, .inl (fun _ => 0))) :: (q4, .inl (k 0, 8, .inl (fun _ => 0))) :: (q5, .inl (k 0, 8, .inl (fun _ => 0))) :: (q6, .inl (k 2, 512, .inl (fun _ => 0))) :: [(q7, .inl (k 0, 512, .inl (fun _ => 0)))]) := hD
  refine lv_aload_n hx hb dX5_init_62 rfl (lv_at hl 0 rfl) ?_
  refine lv_bipush (v := 6) hx hb dX5_init_63 (by decide) ?_
  refine va_newa (atype := .int) (n := 6) (N' := 6) (a0 := (6, .inl (fun _ => 0))) hx hb (hts (.arrayClass .int) (by decide +kernel)) rfl hK hP hD hS hA (fun _ => rfl) (by decide) (by decide) (by decide) (Nat.le_of_ble_eq_true rfl) (Nat.le_of_ble_eq_true rfl) dX5_init_65 (fun q8 cA H hK1 hP hD hS => ?_)
  obtain rfl := ra_int hK hK1
  have hP : va_P D vwCl ((h0, .inr (5, [.ref q1, .ref q2, .int 0, .ref q3, .ref q4, .ref q5, .ref q6, .ref q7, .null, .int 0, .int 0, .int 0, .int 0, .null, .null, .null, .null, .null, .null])) :: (q1, .inl (k 0, 16, .inl (fun _ => 0))) :: (q2, .inl (k 0, 16, .inl (fun _ => 0))) :: (q3, .inl (k 0, 8, .inl (fun _ => 0))) :: (q4, .inl (k 0, 8, .inl (fun _ => 0))) :: (q5, .inl (k 0, 8, .inl (fun _ => 0))) :: (q6, .inl (k 2, 512, .inl (fun _ => 0))) :: (q7, .inl (k 0, 512, .inl (fun _ => 0))) :: [(q8, .inl (k 0, 6, .inl (fun _ => 0)))]) H := hP
  have hD : va_D A ((h0, .inr (5, [.ref q1, .ref q2, .int 0, .ref q3, .ref q4, .ref q5, .ref q6, .ref q7, .null, .int 0, .int 0, .int 0, .int 0, .null, .null, .null, .null, .null, .null])) :: (q1, .inl (k 0, 16, .inl (fun _ => 0))) :: (q2, .inl (k 0, 16, .inl (fun _ => 0))) :: (q3, .inl (k 0, 8, .inl (fun _ => 0))) :: (q4, .inl (k 0, 8, .inl (fun _ => 0))) :: (q5, .inl (k 0, 8, .inl (fun _ => 0))) :: (q6, .inl (k 2, 512, .inl (fun _ => 0))) :: (q7, .inl (k 0, 512, .inl (fun _ => 0))) :: [(q8, .inl (k 0, 6, .inl (fun _ => 0)))]) := hD
  refine va_putF (D := D) (ci := 5) (v := .ref q8) (ty := (.array .int)) (C := RX5) (T := TX5) (N := 19) hx hb hts hiRX5 tyX5 tyX5_ok nmX5 hown hK hP hD hS 0 rfl rfl 8 (by decide) hf32 (fun _ h9 => h9) rfl hin rfl (by decide +kernel) rfl rfl (Nat.le_of_ble_eq_true rfl) dX5_init_67 (fun H locs hP hD hS => ?_)
  have hP : va_P D vwCl ((h0, .inr (5, [.ref q1, .ref q2, .int 0, .ref q3, .ref q4, .ref q5, .ref q6, .ref q7, .ref q8, .int 0, .int 0, .int 0, .int 0, .null, .null, .null, .null, .null, .null])) :: (q1, .inl (k 0, 16, .inl (fun _ => 0))) :: (q2, .inl (k 0, 16, .inl (fun _ => 0))) :: (q3, .inl (k 0, 8, .inl (fun _ => 0))) :: (q4, .inl (k 0, 8, .inl (fun _ => 0))) :: (q5, .inl (k 0, 8, .inl (fun _ => 0))) :: (q6, .inl (k 2, 512, .inl (fun _ => 0))) :: (q7, .inl (k 0, 512, .inl (fun _ => 0))) :: [(q8, .inl (k 0, 6, .inl (fun _ => 0)))]) H := hP
  have hD : va_D A ((h0, .inr (5, [.ref q1, .ref q2, .int 0, .ref q3, .ref q4, .ref q5, .ref q6, .ref q7, .ref q8, .int 0, .int 0, .int 0, .int 0, .null, .null, .null, .null, .null, .null])) :: (q1, .inl (k 0, 16, .inl (fun _ => 0))) :: (q2, .inl (k 0, 16, .inl (fun _ => 0))) :: (q3, .inl (k 0, 8, .inl (fun _ => 0))) :: (q4, .inl (k 0, 8, .inl (fun _ => 0))) :: (q5, .inl (k 0, 8, .inl (fun _ => 0))) :: (q6, .inl (k 2, 512, .inl (fun _ => 0))) :: (q7, .inl (k 0, 512, .inl (fun _ => 0))) :: [(q8, .inl (k 0, 6, .inl (fun _ => 0)))]) := hD
  refine lv_aload_n hx hb dX5_init_70 rfl (lv_at hl 0 rfl) ?_
  refine lv_iconst (v := 2) hx hb dX5_init_71 (by decide) ?_
  refine va_newa (atype := .boolean) (n := 2) (N' := 2) (a0 := (2, .inl (fun _ => 0))) hx hb (hts (.arrayClass .boolean) (by decide +kernel)) rfl hK hP hD hS hA (fun _ => rfl) (by decide) (by decide) (by decide) (Nat.le_of_ble_eq_true rfl) (Nat.le_of_ble_eq_true rfl) dX5_init_72 (fun q9 cA H hK1 hP hD hS => ?_)
  obtain rfl := ra_boolean hK hK1
  have hP : va_P D vwCl ((h0, .inr (5, [.ref q1, .ref q2, .int 0, .ref q3, .ref q4, .ref q5, .ref q6, .ref q7, .ref q8, .int 0, .int 0, .int 0, .int 0, .null, .null, .null, .null, .null, .null])) :: (q1, .inl (k 0, 16, .inl (fun _ => 0))) :: (q2, .inl (k 0, 16, .inl (fun _ => 0))) :: (q3, .inl (k 0, 8, .inl (fun _ => 0))) :: (q4, .inl (k 0, 8, .inl (fun _ => 0))) :: (q5, .inl (k 0, 8, .inl (fun _ => 0))) :: (q6, .inl (k 2, 512, .inl (fun _ => 0))) :: (q7, .inl (k 0, 512, .inl (fun _ => 0))) :: (q8, .inl (k 0, 6, .inl (fun _ => 0))) :: [(q9, .inl (k 2, 2, .inl (fun _ => 0)))]) H := hP
  have hD : va_D A ((h0, .inr (5, [.ref q1, .ref q2, .int 0, .ref q3, .ref q4, .ref q5, .ref q6, .ref q7, .ref q8, .int 0, .int 0, .int 0, .int 0, .null, .null, .null, .null, .null, .null])) :: (q1, .inl (k 0, 16, .inl (fun _ => 0))) :: (q2, .inl (k 0, 16, .inl (fun _ => 0))) :: (q3, .inl (k 0, 8, .inl (fun _ => 0))) :: (q4, .inl (k 0, 8, .inl (fun _ => 0))) :: (q5, .inl (k 0, 8, .inl (fun _ => 0))) :: (q6, .inl (k 2, 512, .inl (fun _ => 0))) :: (q7, .inl (k 0, 512, .inl (fun _ => 0))) :: (q8, .inl (k 0, 6, .inl (fun _ => 0))) :: [(q9, .inl (k 2, 2, .inl (fun _ => 0)))]) := hD
  refine va_putF (D := D) (ci := 5) (v := .ref q9) (ty := (.array .boolean)) (C := RX5) (T := TX5) (N := 19) hx hb hts hiRX5 tyX5 tyX5_ok nmX5 hown hK hP hD hS 0 rfl rfl 13 (by decide) hf35 (fun _ h9 => h9) rfl hin rfl (by decide +kernel) rfl rfl (Nat.le_of_ble_eq_true rfl) dX5_init_74 (fun H locs hP hD hS => ?_)
  have hP : va_P D vwCl ((h0, .inr (5, [.ref q1, .ref q2, .int 0, .ref q3, .ref q4, .ref q5, .ref q6, .ref q7, .ref q8, .int 0, .int 0, .int 0, .int 0, .ref q9, .null, .null, .null, .null, .null])) :: (q1, .inl (k 0, 16, .inl (fun _ => 0))) :: (q2, .inl (k 0, 16, .inl (fun _ => 0))) :: (q3, .inl (k 0, 8, .inl (fun _ => 0))) :: (q4, .inl (k 0, 8, .inl (fun _ => 0))) :: (q5, .inl (k 0, 8, .inl (fun _ => 0))) :: (q6, .inl (k 2, 512, .inl (fun _ => 0))) :: (q7, .inl (k 0, 512, .inl (fun _ => 0))) :: (q8, .inl (k 0, 6, .inl (fun _ => 0))) :: [(q9, .inl (k 2, 2, .inl (fun _ => 0)))]) H := hP
  have hD : va_D A ((h0, .inr (5, [.ref q1, .ref q2, .int 0, .ref q3, .ref q4, .ref q5, .ref q6, .ref q7, .ref q8, .int 0, .int 0, .int 0, .int 0, .ref q9, .null, .null, .null, .null, .null])) :: (q1, .inl (k 0, 16, .inl (fun _ => 0))) :: (q2, .inl (k 0, 16, .inl (fun _ => 0))) :: (q3, .inl (k 0, 8, .inl (fun _ => 0))) :: (q4, .inl (k 0, 8, .inl (fun _ => 0))) :: (q5, .inl (k 0, 8, .inl (fun _ => 0))) :: (q6, .inl (k 2, 512, .inl (fun _ => 0))) :: (q7, .inl (k 0, 512, .inl (fun _ => 0))) :: (q8, .inl (k 0, 6, .inl (fun _ => 0))) :: [(q9, .inl (k 2, 2, .inl (fun _ => 0)))]) := hD
  refine lv_aload_n hx hb dX5_init_77 rfl (lv_at hl 0 rfl) ?_
  refine lv_bipush (v := 64) hx hb dX5_init_78 (by decide) ?_
  refine va_newa (atype := .int) (n := 64) (N' := 64) (a0 := (64, .inl (fun _ => 0))) hx hb (hts (.arrayClass .int) (by decide +kernel)) rfl hK hP hD hS hA (fun _ => rfl) (by decide) (by decide) (by decide) (Nat.le_of_ble_eq_true rfl) (Nat.le_of_ble_eq_true rfl) dX5_init_80 (fun q10 cA H hK1 hP hD hS => ?_)
  obtain rfl := ra_int hK hK1
  have hP : va_P D vwCl ((h0, .inr (5, [.ref q1, .ref q2, .int 0, .ref q3, .ref q4, .ref q5, .ref q6, .ref q7, .ref q8, .int 0, .int 0, .int 0, .int 0, .ref q9, .null, .null, .null, .null, .null])) :: (q1, .inl (k 0, 16, .inl (fun _ => 0))) :: (q2, .inl (k 0, 16, .inl (fun _ => 0))) :: (q3, .inl (k 0, 8, .inl (fun _ => 0))) :: (q4, .inl (k 0, 8, .inl (fun _ => 0))) :: (q5, .inl (k 0, 8, .inl (fun _ => 0))) :: (q6, .inl (k 2, 512, .inl (fun _ => 0))) :: (q7, .inl (k 0, 512, .inl (fun _ => 0))) :: (q8, .inl (k 0, 6, .inl (fun _ => 0))) :: (q9, .inl (k 2, 2, .inl (fun _ => 0))) :: [(q10, .inl (k 0, 64, .inl (fun _ => 0)))]) H := hP
  have hD : va_D A ((h0, .inr (5, [.ref q1, .ref q2, .int 0, .ref q3, .ref q4, .ref q5, .ref q6, .ref q7, .ref q8, .int 0, .int 0, .int 0, .int 0, .ref q9, .null, .null, .null, .null, .null])) :: (q1, .inl (k 0, 16, .inl (fun _ => 0))) :: (q2, .inl (k 0, 16, .inl (fun _ => 0))) :: (q3, .inl (k 0, 8, .inl (fun _ => 0))) :: (q4, .inl (k 0, 8, .inl (fun _ => 0))) :: (q5, .inl (k 0, 8, .inl (fun _ => 0))) :: (q6, .inl (k 2, 512, .inl (fun _ => 0))) :: (q7, .inl (k 0, 512, .inl (fun _ => 0))) :: (q8, .inl (k 0, 6, .inl (fun _ => 0))) :: (q9, .inl (k 2, 2, .inl (fun _ => 0))) :: [(q10, .inl (k 0, 64, .inl (fun _ => 0)))]) := hD
  refine va_putF (D := D) (ci := 5) (v := .ref q10) (ty := (.array .int)) (C := RX5) (T := TX5) (N := 19) hx hb hts hiRX5 tyX5 tyX5_ok nmX5 hown hK hP hD hS 0 rfl rfl 14 (by decide) hf38 (fun _ h9 => h9) rfl hin rfl (by decide +kernel) rfl rfl (Nat.le_of_ble_eq_true rfl) dX5_init_82 (fun H locs hP hD hS => ?_)
  have hP : va_P D vwCl ((h0, .inr (5, [.ref q1, .ref q2, .int 0, .ref q3, .ref q4, .ref q5, .ref q6, .ref q7, .ref q8, .int 0, .int 0, .int 0, .int 0, .ref q9, .ref q10, .null, .null, .null, .null])) :: (q1, .inl (k 0, 16, .inl (fun _ => 0))) :: (q2, .inl (k 0, 16, .inl (fun _ => 0))) :: (q3, .inl (k 0, 8, .inl (fun _ => 0))) :: (q4, .inl (k 0, 8, .inl (fun _ => 0))) :: (q5, .inl (k 0, 8, .inl (fun _ => 0))) :: (q6, .inl (k 2, 512, .inl (fun _ => 0))) :: (q7, .inl (k 0, 512, .inl (fun _ => 0))) :: (q8, .inl (k 0, 6, .inl (fun _ => 0))) :: (q9, .inl (k 2, 2, .inl (fun _ => 0))) :: [(q10, .inl (k 0, 64, .inl (fun _ => 0)))]) H := hP
  have hD : va_D A ((h0, .inr (5, [.ref q1, .ref q2, .int 0, .ref q3, .ref q4, .ref q5, .ref q6, .ref q7, .ref q8, .int 0, .int 0, .int 0, .int 0, .ref q9, .ref q10, .null, .null, .null, .null])) :: (q1, .inl (k 0, 16, .inl (fun _ => 0))) :: (q2, .inl (k 0, 16, .inl (fun _ => 0))) :: (q3, .inl (k 0, 8, .inl (fun _ => 0))) :: (q4, .inl (k 0, 8, .inl (fun _ => 0))) :: (q5, .inl (k 0, 8, .inl (fun _ => 0))) :: (q6, .inl (k 2, 512, .inl (fun _ => 0))) :: (q7, .inl (k 0, 512, .inl (fun _ => 0))) :: (q8, .inl (k 0, 6, .inl (fun _ => 0))) :: (q9, .inl (k 2, 2, .inl (fun _ => 0))) :: [(q10, .inl (k 0, 64, .inl (fun _ => 0)))]) := hD
  refine lv_aload_n hx hb dX5_init_85 rfl (lv_at hl 0 rfl) ?_
  refine lv_iconst (v := 2) hx hb dX5_init_86 (by decide) ?_
  refine va_newa (atype := .int) (n := 2) (N' := 2) (a0 := (2, .inl (fun _ => 0))) hx hb (hts (.arrayClass .int) (by decide +kernel)) rfl hK hP hD hS hA (fun _ => rfl) (by decide) (by decide) (by decide) (Nat.le_of_ble_eq_true rfl) (Nat.le_of_ble_eq_true rfl) dX5_init_87 (fun q11 cA H hK1 hP hD hS => ?_)
  obtain rfl := ra_int hK hK1
  have hP : va_P D vwCl ((h0, .inr (5, [.ref q1, .ref q2, .int 0, .ref q3, .ref q4, .ref q5, .ref q6, .ref q7, .ref q8, .int 0, .int 0, .int 0, .int 0, .ref q9, .ref q10, .null, .null, .null, .null])) :: (q1, .inl (k 0, 16, .inl (fun _ => 0))) :: (q2, .inl (k 0, 16, .inl (fun _ => 0))) :: (q3, .inl (k 0, 8, .inl (fun _ => 0))) :: (q4, .inl (k 0, 8, .inl (fun _ => 0))) :: (q5, .inl (k 0, 8, .inl (fun _ => 0))) :: (q6, .inl (k 2, 512, .inl (fun _ => 0))) :: (q7, .inl (k 0, 512, .inl (fun _ => 0))) :: (q8, .inl (k 0, 6, .inl (fun _ => 0))) :: (q9, .inl (k 2, 2, .inl (fun _ => 0))) :: (q10, .inl (k 0, 64, .inl (fun _ => 0))) :: [(q11, .inl (k 0, 2, .inl (fun _ => 0)))]) H := hP
  have hD : va_D A ((h0, .inr (5, [.ref q1, .ref q2, .int 0, .ref q3, .ref q4, .ref q5, .ref q6, .ref q7, .ref q8, .int 0, .int 0, .int 0, .int 0, .ref q9, .ref q10, .null, .null, .null, .null])) :: (q1, .inl (k 0, 16, .inl (fun _ => 0))) :: (q2, .inl (k 0, 16, .inl (fun _ => 0))) :: (q3, .inl (k 0, 8, .inl (fun _ => 0))) :: (q4, .inl (k 0, 8, .inl (fun _ => 0))) :: (q5, .inl (k 0, 8, .inl (fun _ => 0))) :: (q6, .inl (k 2, 512, .inl (fun _ => 0))) :: (q7, .inl (k 0, 512, .inl (fun _ => 0))) :: (q8, .inl (k 0, 6, .inl (fun _ => 0))) :: (q9, .inl (k 2, 2, .inl (fun _ => 0))) :: (q10, .inl (k 0, 64, .inl (fun _ => 0))) :: [(q11, .inl (k 0, 2, .inl (fun _ => 0)))]) := hD
  refine va_putF (D := D) (ci := 5) (v := .ref q11) (ty := (.array .int)) (C := RX5) (T := TX5) (N := 19) hx hb hts hiRX5 tyX5 tyX5_ok nmX5 hown hK hP hD hS 0 rfl rfl 15 (by decide) hf41 (fun _ h9 => h9) rfl hin rfl (by decide +kernel) rfl rfl (Nat.le_of_ble_eq_true rfl) dX5_init_89 (fun H locs hP hD hS => ?_)
  have hP : va_P D vwCl ((h0, .inr (5, [.ref q1, .ref q2, .int 0, .ref q3, .ref q4, .ref q5, .ref q6, .ref q7, .ref q8, .int 0, .int 0, .int 0, .int 0, .ref q9, .ref q10, .ref q11, .null, .null, .null])) :: (q1, .inl (k 0, 16, .inl (fun _ => 0))) :: (q2, .inl (k 0, 16, .inl (fun _ => 0))) :: (q3, .inl (k 0, 8, .inl (fun _ => 0))) :: (q4, .inl (k 0, 8, .inl (fun _ => 0))) :: (q5, .inl (k 0, 8, .inl (fun _ => 0))) :: (q6, .inl (k 2, 512, .inl (fun _ => 0))) :: (q7, .inl (k 0, 512, .inl (fun _ => 0))) :: (q8, .inl (k 0, 6, .inl (fun _ => 0))) :: (q9, .inl (k 2, 2, .inl (fun _ => 0))) :: (q10, .inl (k 0, 64, .inl (fun _ => 0))) :: [(q11, .inl (k 0, 2, .inl (fun _ => 0)))]) H := hP
  have hD : va_D A ((h0, .inr (5, [.ref q1, .ref q2, .int 0, .ref q3, .ref q4, .ref q5, .ref q6, .ref q7, .ref q8, .int 0, .int 0, .int 0, .int 0, .ref q9, .ref q10, .ref q11, .null, .null, .null])) :: (q1, .inl (k 0, 16, .inl (fun _ => 0))) :: (q2, .inl (k 0, 16, .inl (fun _ => 0))) :: (q3, .inl (k 0, 8, .inl (fun _ => 0))) :: (q4, .inl (k 0, 8, .inl (fun _ => 0))) :: (q5, .inl (k 0, 8, .inl (fun _ => 0))) :: (q6, .inl (k 2, 512, .inl (fun _ => 0))) :: (q7, .inl (k 0, 512, .inl (fun _ => 0))) :: (q8, .inl (k 0, 6, .inl (fun _ => 0))) :: (q9, .inl (k 2, 2, .inl (fun _ => 0))) :: (q10, .inl (k 0, 64, .inl (fun _ => 0))) :: [(q11, .inl (k 0, 2, .inl (fun _ => 0)))]) := hD
  refine lv_aload_n hx hb dX5_init_92 rfl (lv_at hl 0 rfl) ?_
  refine lv_bipush (v := 48) hx hb dX5_init_93 (by decide) ?_
  refine va_newa (atype := .int) (n := 48) (N' := 48) (a0 := (48, .inl (fun _ => 0))) hx hb (hts (.arrayClass .int) (by decide +kernel)) rfl hK hP hD hS hA (fun _ => rfl) (by decide) (by decide) (by decide) (Nat.le_of_ble_eq_true rfl) (Nat.le_of_ble_eq_true rfl) dX5_init_95 (fun q12 cA H hK1 hP hD hS => ?_)
  obtain rfl := ra_int hK hK1
  have hP : va_P D vwCl ((h0, .inr (5, [.ref q1, .ref q2, .int 0, .ref q3, .ref q4, .ref q5, .ref q6, .ref q7, .ref q8, .int 0, .int 0, .int 0, .int 0, .ref q9, .ref q10, .ref q11, .null, .null, .null])) :: (q1, .inl (k 0, 16, .inl (fun _ => 0))) :: (q2, .inl (k 0, 16, .inl (fun _ => 0))) :: (q3, .inl (k 0, 8, .inl (fun _ => 0))) :: (q4, .inl (k 0, 8, .inl (fun _ => 0))) :: (q5, .inl (k 0, 8, .inl (fun _ => 0))) :: (q6, .inl (k 2, 512, .inl (fun _ => 0))) :: (q7, .inl (k 0, 512, .inl (fun _ => 0))) :: (q8, .inl (k 0, 6, .inl (fun _ => 0))) :: (q9, .inl (k 2, 2, .inl (fun _ => 0))) :: (q10, .inl (k 0, 64, .inl (fun _ => 0))) :: (q11, .inl (k 0, 2, .inl (fun _ => 0))) :: [(q12, .inl (k 0, 48, .inl (fun _ => 0)))]) H := hP
  have hD : va_D A ((h0, .inr (5, [.ref q1, .ref q2, .int 0, .ref q3, .ref q4, .ref q5, .ref q6, .ref q7, .ref q8, .int 0, .int 0, .int 0, .int 0, .ref q9, .ref q10, .ref q11, .null, .null, .null])) :: (q1, .inl (k 0, 16, .inl (fun _ => 0))) :: (q2, .inl (k 0, 16, .inl (fun _ => 0))) :: (q3, .inl (k 0, 8, .inl (fun _ => 0))) :: (q4, .inl (k 0, 8, .inl (fun _ => 0))) :: (q5, .inl (k 0, 8, .inl (fun _ => 0))) :: (q6, .inl (k 2, 512, .inl (fun _ => 0))) :: (q7, .inl (k 0, 512, .inl (fun _ => 0))) :: (q8, .inl (k 0, 6, .inl (fun _ => 0))) :: (q9, .inl (k 2, 2, .inl (fun _ => 0))) :: (q10, .inl (k 0, 64, .inl (fun _ => 0))) :: (q11, .inl (k 0, 2, .inl (fun _ => 0))) :: [(q12, .inl (k 0, 48, .inl (fun _ => 0)))]) := hD
  refine va_putF (D := D) (ci := 5) (v := .ref q12) (ty := (.array .int)) (C := RX5) (T := TX5) (N := 19) hx hb hts hiRX5 tyX5 tyX5_ok nmX5 hown hK hP hD hS 0 rfl rfl 16 (by decide) hf44 (fun _ h9 => h9) rfl hin rfl (by decide +kernel) rfl rfl (Nat.le_of_ble_eq_true rfl) dX5_init_97 (fun H locs hP hD hS => ?_)
  have hP : va_P D vwCl ((h0, .inr (5, [.ref q1, .ref q2, .int 0, .ref q3, .ref q4, .ref q5, .ref q6, .ref q7, .ref q8, .int 0, .int 0, .int 0, .int 0, .ref q9, .ref q10, .ref q11, .ref q12, .null, .null])) :: (q1, .inl (k 0, 16, .inl (fun _ => 0))) :: (q2, .inl (k 0, 16, .inl (fun _ => 0))) :: (q3, .inl (k 0, 8, .inl (fun _ => 0))) :: (q4, .inl (k 0, 8, .inl (fun _ => 0))) :: (q5, .inl (k 0, 8, .inl (fun _ => 0))) :: (q6, .inl (k 2, 512, .inl (fun _ => 0))) :: (q7, .inl (k 0, 512, .inl (fun _ => 0))) :: (q8, .inl (k 0, 6, .inl (fun _ => 0))) :: (q9, .inl (k 2, 2, .inl (fun _ => 0))) :: (q10, .inl (k 0, 64, .inl (fun _ => 0))) :: (q11, .inl (k 0, 2, .inl (fun _ => 0))) :: [(q12, .inl (k 0, 48, .inl (fun _ => 0)))]) H := hP
  have hD : va_D A ((h0, .inr (5, [.ref q1, .ref q2, .int 0, .ref q3, .ref q4, .ref q5, .ref q6, .ref q7, .ref q8, .int 0, .int 0, .int 0, .int 0, .ref q9, .ref q10, .ref q11, .ref q12, .null, .null])) :: (q1, .inl (k 0, 16, .inl (fun _ => 0))) :: (q2, .inl (k 0, 16, .inl (fun _ => 0))) :: (q3, .inl (k 0, 8, .inl (fun _ => 0))) :: (q4, .inl (k 0, 8, .inl (fun _ => 0))) :: (q5, .inl (k 0, 8, .inl (fun _ => 0))) :: (q6, .inl (k 2, 512, .inl (fun _ => 0))) :: (q7, .inl (k 0, 512, .inl (fun _ => 0))) :: (q8, .inl (k 0, 6, .inl (fun _ => 0))) :: (q9, .inl (k 2, 2, .inl (fun _ => 0))) :: (q10, .inl (k 0, 64, .inl (fun _ => 0))) :: (q11, .inl (k 0, 2, .inl (fun _ => 0))) :: [(q12, .inl (k 0, 48, .inl (fun _ => 0)))]) := hD
  refine lv_aload_n hx hb dX5_init_100 rfl (lv_at hl 0 rfl) ?_
  refine lv_sipush (v := 1024) hx hb dX5_init_101 (by decide) ?_
  refine va_newa (atype := .boolean) (n := 1024) (N' := 1024) (a0 := (1024, .inl (fun _ => 0))) hx hb (hts (.arrayClass .boolean) (by decide +kernel)) rfl hK hP hD hS hA (fun _ => rfl) (by decide) (by decide) (by decide) (Nat.le_of_ble_eq_true rfl) (Nat.le_of_ble_eq_true rfl) dX5_init_104 (fun q13 cA H hK1 hP hD hS => ?_)
  obtain rfl := ra_boolean hK hK1
  have hP : va_P D vwCl ((h0, .inr (5, [.ref q1, .ref q2, .int 0, .ref q3, .ref q4, .ref q5, .ref q6, .ref q7, .ref q8, .int 0, .int 0, .int 0, .int 0, .ref q9, .ref q10, .ref q11, .ref q12, .null, .null])) :: (q1, .inl (k 0, 16, .inl (fun _ => 0))) :: (q2, .inl (k 0, 16, .inl (fun _ => 0))) :: (q3, .inl (k 0, 8, .inl (fun _ => 0))) :: (q4, .inl (k 0, 8, .inl (fun _ => 0))) :: (q5, .inl (k 0, 8, .inl (fun _ => 0))) :: (q6, .inl (k 2, 512, .inl (fun _ => 0))) :: (q7, .inl (k 0, 512, .inl (fun _ => 0))) :: (q8, .inl (k 0, 6, .inl (fun _ => 0))) :: (q9, .inl (k 2, 2, .inl (fun _ => 0))) :: (q10, .inl (k 0, 64, .inl (fun _ => 0))) :: (q11, .inl (k 0, 2, .inl (fun _ => 0))) :: (q12, .inl (k 0, 48, .inl (fun _ => 0))) :: [(q13, .inl (k 2, 1024, .inl (fun _ => 0)))]) H := hP
  have hD : va_D A ((h0, .inr (5, [.ref q1, .ref q2, .int 0, .ref q3, .ref q4, .ref q5, .ref q6, .ref q7, .ref q8, .int 0, .int 0, .int 0, .int 0, .ref q9, .ref q10, .ref q11, .ref q12, .null, .null])) :: (q1, .inl (k 0, 16, .inl (fun _ => 0))) :: (q2, .inl (k 0, 16, .inl (fun _ => 0))) :: (q3, .inl (k 0, 8, .inl (fun _ => 0))) :: (q4, .inl (k 0, 8, .inl (fun _ => 0))) :: (q5, .inl (k 0, 8, .inl (fun _ => 0))) :: (q6, .inl (k 2, 512, .inl (fun _ => 0))) :: (q7, .inl (k 0, 512, .inl (fun _ => 0))) :: (q8, .inl (k 0, 6, .inl (fun _ => 0))) :: (q9, .inl (k 2, 2, .inl (fun _ => 0))) :: (q10, .inl (k 0, 64, .inl (fun _ => 0))) :: (q11, .inl (k 0, 2, .inl (fun _ => 0))) :: (q12, .inl (k 0, 48, .inl (fun _ => 0))) :: [(q13, .inl (k 2, 1024, .inl (fun _ => 0)))]) := hD
  refine va_putF (D := D) (ci := 5) (v := .ref q13) (ty := (.array .boolean)) (C := RX5) (T := TX5) (N := 19) hx hb hts hiRX5 tyX5 tyX5_ok nmX5 hown hK hP hD hS 0 rfl rfl 17 (by decide) hf47 (fun _ h9 => h9) rfl hin rfl (by decide +kernel) rfl rfl (Nat.le_of_ble_eq_true rfl) dX5_init_106 (fun H locs hP hD hS => ?_)
  have hP : va_P D vwCl ((h0, .inr (5, [.ref q1, .ref q2, .int 0, .ref q3, .ref q4, .ref q5, .ref q6, .ref q7, .ref q8, .int 0, .int 0, .int 0, .int 0, .ref q9, .ref q10, .ref q11, .ref q12, .ref q13, .null])) :: (q1, .inl (k 0, 16, .inl (fun _ => 0))) :: (q2, .inl (k 0, 16, .inl (fun _ => 0))) :: (q3, .inl (k 0, 8, .inl (fun _ => 0))) :: (q4, .inl (k 0, 8, .inl (fun _ => 0))) :: (q5, .inl (k 0, 8, .inl (fun _ => 0))) :: (q6, .inl (k 2, 512, .inl (fun _ => 0))) :: (q7, .inl (k 0, 512, .inl (fun _ => 0))) :: (q8, .inl (k 0, 6, .inl (fun _ => 0))) :: (q9, .inl (k 2, 2, .inl (fun _ => 0))) :: (q10, .inl (k 0, 64, .inl (fun _ => 0))) :: (q11, .inl (k 0, 2, .inl (fun _ => 0))) :: (q12, .inl (k 0, 48, .inl (fun _ => 0))) :: [(q13, .inl (k 2, 1024, .inl (fun _ => 0)))]) H := hP
  have hD : va_D A ((h0, .inr (5, [.ref q1, .ref q2, .int 0, .ref q3, .ref q4, .ref q5, .ref q6, .ref q7, .ref q8, .int 0, .int 0, .int 0, .int 0, .ref q9, .ref q10, .ref q11, .ref q12, .ref q13, .null])) :: (q1, .inl (k 0, 16, .inl (fun _ => 0))) :: (q2, .inl (k 0, 16, .inl (fun _ => 0))) :: (q3, .inl (k 0, 8, .inl (fun _ => 0))) :: (q4, .inl (k 0, 8, .inl (fun _ => 0))) :: (q5, .inl (k 0, 8, .inl (fun _ => 0))) :: (q6, .inl (k 2, 512, .inl (fun _ => 0))) :: (q7, .inl (k 0, 512, .inl (fun _ => 0))) :: (q8, .inl (k 0, 6, .inl (fun _ => 0))) :: (q9, .inl (k 2, 2, .inl (fun _ => 0))) :: (q10, .inl (k 0, 64, .inl (fun _ => 0))) :: (q11, .inl (k 0, 2, .inl (fun _ => 0))) :: (q12, .inl (k 0, 48, .inl (fun _ => 0))) :: [(q13, .inl (k 2, 1024, .inl (fun _ => 0)))]) := hD
  refine lv_aload_n hx hb dX5_init_109 rfl (lv_at hl 0 rfl) ?_
  refine lv_sipush (v := 1024) hx hb dX5_init_110 (by decide) ?_
  refine va_newa (atype := .int) (n := 1024) (N' := 1024) (a0 := (1024, .inl (fun _ => 0))) hx hb (hts (.arrayClass .int) (by decide +kernel)) rfl hK hP hD hS hA (fun _ => rfl) (by decide) (by decide) (by decide) (Nat.le_of_ble_eq_true rfl) (Nat.le_of_ble_eq_true rfl) dX5_init_113 (fun q14 cA H hK1 hP hD hS => ?_)
  obtain rfl := ra_int hK hK1
  have hP : va_P D vwCl ((h0, .inr (5, [.ref q1, .ref q2, .int 0, .ref q3, .ref q4, .ref q5, .ref q6, .ref q7, .ref q8, .int 0, .int 0, .int 0, .int 0, .ref q9, .ref q10, .ref q11, .ref q12, .ref q13, .null])) :: (q1, .inl (k 0, 16, .inl (fun _ => 0))) :: (q2, .inl (k 0, 16, .inl (fun _ => 0))) :: (q3, .inl (k 0, 8, .inl (fun _ => 0))) :: (q4, .inl (k 0, 8, .inl (fun _ => 0))) :: (q5, .inl (k 0, 8, .inl (fun _ => 0))) :: (q6, .inl (k 2, 512, .inl (fun _ => 0))) :: (q7, .inl (k 0, 512, .inl (fun _ => 0))) :: (q8, .inl (k 0, 6, .inl (fun _ => 0))) :: (q9, .inl (k 2, 2, .inl (fun _ => 0))) :: (q10, .inl (k 0, 64, .inl (fun _ => 0))) :: (q11, .inl (k 0, 2, .inl (fun _ => 0))) :: (q12, .inl (k 0, 48, .inl (fun _ => 0))) :: (q13, .inl (k 2, 1024, .inl (fun _ => 0))) :: [(q14, .inl (k 0, 1024, .inl (fun _ => 0)))]) H := hP
  have hD : va_D A ((h0, .inr (5, [.ref q1, .ref q2, .int 0, .ref q3, .ref q4, .ref q5, .ref q6, .ref q7, .ref q8, .int 0, .int 0, .int 0, .int 0, .ref q9, .ref q10, .ref q11, .ref q12, .ref q13, .null])) :: (q1, .inl (k 0, 16, .inl (fun _ => 0))) :: (q2, .inl (k 0, 16, .inl (fun _ => 0))) :: (q3, .inl (k 0, 8, .inl (fun _ => 0))) :: (q4, .inl (k 0, 8, .inl (fun _ => 0))) :: (q5, .inl (k 0, 8, .inl (fun _ => 0))) :: (q6, .inl (k 2, 512, .inl (fun _ => 0))) :: (q7, .inl (k 0, 512, .inl (fun _ => 0))) :: (q8, .inl (k 0, 6, .inl (fun _ => 0))) :: (q9, .inl (k 2, 2, .inl (fun _ => 0))) :: (q10, .inl (k 0, 64, .inl (fun _ => 0))) :: (q11, .inl (k 0, 2, .inl (fun _ => 0))) :: (q12, .inl (k 0, 48, .inl (fun _ => 0))) :: (q13, .inl (k 2, 1024, .inl (fun _ => 0))) :: [(q14, .inl (k 0, 1024, .inl (fun _ => 0)))]) := hD
  refine va_putF (D := D) (ci := 5) (v := .ref q14) (ty := (.array .int)) (C := RX5) (T := TX5) (N := 19) hx hb hts hiRX5 tyX5 tyX5_ok nmX5 hown hK hP hD hS 0 rfl rfl 18 (by decide) hf50 (fun _ h9 => h9) rfl hin rfl (by decide +kernel) rfl rfl (Nat.le_of_ble_eq_true rfl) dX5_init_115 (fun H locs hP hD hS => ?_)
  have hP : va_P D vwCl ((h0, .inr (5, [.ref q1, .ref q2, .int 0, .ref q3, .ref q4, .ref q5, .ref q6, .ref q7, .ref q8, .int 0, .int 0, .int 0, .int 0, .ref q9, .ref q10, .ref q11, .ref q12, .ref q13, .ref q14])) :: (q1, .inl (k 0, 16, .inl (fun _ => 0))) :: (q2, .inl (k 0, 16, .inl (fun _ => 0))) :: (q3, .inl (k 0, 8, .inl (fun _ => 0))) :: (q4, .inl (k 0, 8, .inl (fun _ => 0))) :: (q5, .inl (k 0, 8, .inl (fun _ => 0))) :: (q6, .inl (k 2, 512, .inl (fun _ => 0))) :: (q7, .inl (k 0, 512, .inl (fun _ => 0))) :: (q8, .inl (k 0, 6, .inl (fun _ => 0))) :: (q9, .inl (k 2, 2, .inl (fun _ => 0))) :: (q10, .inl (k 0, 64, .inl (fun _ => 0))) :: (q11, .inl (k 0, 2, .inl (fun _ => 0))) :: (q12, .inl (k 0, 48, .inl (fun _ => 0))) :: (q13, .inl (k 2, 1024, .inl (fun _ => 0))) :: [(q14, .inl (k 0, 1024, .inl (fun _ => 0)))]) H := hP
  have hD : va_D A ((h0, .inr (5, [.ref q1, .ref q2, .int 0, .ref q3, .ref q4, .ref q5, .ref q6, .ref q7, .ref q8, .int 0, .int 0, .int 0, .int 0, .ref q9, .ref q10, .ref q11, .ref q12, .ref q13, .ref q14])) :: (q1, .inl (k 0, 16, .inl (fun _ => 0))) :: (q2, .inl (k 0, 16, .inl (fun _ => 0))) :: (q3, .inl (k 0, 8, .inl (fun _ => 0))) :: (q4, .inl (k 0, 8, .inl (fun _ => 0))) :: (q5, .inl (k 0, 8, .inl (fun _ => 0))) :: (q6, .inl (k 2, 512, .inl (fun _ => 0))) :: (q7, .inl (k 0, 512, .inl (fun _ => 0))) :: (q8, .inl (k 0, 6, .inl (fun _ => 0))) :: (q9, .inl (k 2, 2, .inl (fun _ => 0))) :: (q10, .inl (k 0, 64, .inl (fun _ => 0))) :: (q11, .inl (k 0, 2, .inl (fun _ => 0))) :: (q12, .inl (k 0, 48, .inl (fun _ => 0))) :: (q13, .inl (k 2, 1024, .inl (fun _ => 0))) :: [(q14, .inl (k 0, 1024, .inl (fun _ => 0)))]) := hD
  obtain ⟨a, ha⟩ : ∃ a : Nat → Nat, a = fun n => ([h0, q1, q2, q3, q4, q5, q6, q7, q8, q9, q10, q11, q12, q13, q14] : List Nat).getD n 0 := ⟨_, rfl⟩
  have ha0 : a 0 = h0 := by rw [ha]; rfl
  have hP : va_P D vwCl (modelW k a ((fun _ => (0 : Int32)), (fun _ => (0 : Int32)), (0 : Int32), (fun _ => (0 : Int32)), (fun _ => (0 : Int32)), (fun _ => (0 : Int32)), (fun _ => (0 : Int32)), (fun _ => (0 : Int32)), (fun _ => (0 : Int32)), (0 : Int32), (0 : Int32), (0 : Int32), (0 : Int32), (fun _ => (0 : Int32)), (fun _ => (0 : Int32)), (fun _ => (0 : Int32)), (fun _ => (0 : Int32)), (fun _ => (0 : Int32)), (fun _ => (0 : Int32)))) H := by rw [ha]; exact hP.sub [0, 1, 2, 3, 4, 5, 6, 7, 8, 9, 10, 11, 12, 13, 14] rfl
  have hD : va_D A (modelW k a ((fun _ => (0 : Int32)), (fun _ => (0 : Int32)), (0 : Int32), (fun _ => (0 : Int32)), (fun _ => (0 : Int32)), (fun _ => (0 : Int32)), (fun _ => (0 : Int32)), (fun _ => (0 : Int32)), (fun _ => (0 : Int32)), (0 : Int32), (0 : Int32), (0 : Int32), (0 : Int32), (fun _ => (0 : Int32)), (fun _ => (0 : Int32)), (fun _ => (0 : Int32)), (fun _ => (0 : Int32)), (fun _ => (0 : Int32)), (fun _ => (0 : Int32)))) := by rw [ha]; exact hD.sub [0, 1, 2, 3, 4, 5, 6, 7, 8, 9, 10, 11, 12, 13, 14] (by decide) rfl
  have hl : lv_has ls 2 [(0, .ref (a 0))] := by rw [ha]; exact hl
  refine lv_iconst (v := 0) hx hb dX5_init_118 (by decide) ?_
  refine lv_istore_n (lv' := [(1, .int 0), (0, .ref (a 0))]) hx hb dX5_init_119 rfl hl (by decide) rfl (fun ls hl => ?_)
  obtain ⟨x1, h2, h⟩ := bd_s h
  have K20 : ∀ (ls : Array Slot) (H : Heap) (locs : List Loc), lv_has ls 2 [(0, .ref (a 0))] → va_P D vwCl (modelW k a x1) H → va_D A (modelW k a x1) → va_S A s.heap H locs → W p l e rm_X5_init s m args below meth c H locs 14 3250 Q (F0 m 140 ls []) := by
    intro ls H locs hl hP hD hS
    refine lv_iconst (v := 0) hx hb dX5_init_140 (by decide) ?_
    refine lv_istore_n (lv' := [(1, .int 0), (0, .ref (a 0))]) hx hb dX5_init_141 rfl hl (by decide) rfl (fun ls hl => ?_)
    obtain ⟨x8, h9, h⟩ := bd_s h
    have K17 : ∀ (ls : Array Slot) (H : Heap) (locs : List Loc), lv_has ls 2 [] → va_P D vwCl (modelW k a x8) H → va_D A (modelW k a x8) → va_S A s.heap H locs → W p l e rm_X5_init s m args below meth c H locs 14 3250 Q (F0 m 163 ls []) := by
      intro ls H locs hl hP hD hS
      obtain rfl := Option.some.inj h
      exact hQ _ _ _ _ a dX5_init_163 ha0 hP hD hS
    refine lp_W (P := fun z10 => ∀ (ls : Array Slot) (H : Heap) (locs : List Loc), lv_has ls 2 [(0, .ref (a 0)), (1, .int z10.1)] → va_P D vwCl (modelW k a z10.2) H → va_D A (modelW k a z10.2) → va_S A s.heap H locs → W p l e rm_X5_init s m args below meth c H locs 14 3250 Q (F0 m 142 ls [])) (E := fun x8 => ∀ (ls : Array Slot) (H : Heap) (locs : List Loc), lv_has ls 2 [] → va_P D vwCl (modelW k a x8) H → va_D A (modelW k a x8) → va_S A s.heap H locs → W p l e rm_X5_init s m args below meth c H locs 14 3250 Q (F0 m 163 ls [])) (fun z10 xx12 hB11 kI13 kE14 => ?_) _ _ _ h9 K17 ls H locs (lv_sub hl [1, 0] rfl) hP hD hS
    intro ls H locs hl hP hD hS
    unfold f_X5_init_L142 at hB11
    refine lv_iload_n hx hb dX5_init_142 rfl (lv_at hl 1 rfl) ?_
    refine lv_sipush (v := 512) hx hb dX5_init_143 (by decide) ?_
    refine lv_icmp_ge (tgt := 163) hx hb dX5_init_146 (by decide) (fun c15 => ?_) (fun c15 => ?_)
    · have hB11 := if_t hB11 c15
      exact kE14 _ (Option.some.inj hB11).symm ls H locs (lv_sub hl [] rfl) hP hD hS
    · have hB11 := if_f hB11 c15
      refine lv_aload_n hx hb dX5_init_149 rfl (lv_at hl 0 rfl) ?_
      refine va_get (D := D) (ci := 5) (v := .ref (a 7)) (C := RX5) (T := TX5) (N := 19) hx hb hts hiRX5 hown hK hP 0 rfl rfl 7 (by decide) hf29 (fun _ h9 => h9) rfl dX5_init_150 ?_
      refine lv_iload_n hx hb dX5_init_153 rfl (lv_at hl 1 rfl) ?_
      refine lv_bipush (v := (-6)) hx hb dX5_init_154 (by decide) ?_
      obtain ⟨c16, hB11⟩ := gd_s hB11
      refine va_iast (D := D) hx hb hK hP hD hS 7 0 rfl rfl (ix_in c16) dX5_init_156 (fun H locs hP hD hS => ?_)
      have hP : va_P D vwCl (modelW k a ((z10.2).1, (z10.2).2.1, (z10.2).2.2.1, (z10.2).2.2.2.1, (z10.2).2.2.2.2.1, (z10.2).2.2.2.2.2.1, (z10.2).2.2.2.2.2.2.1, (upd ((z10.2).2.2.2.2.2.2.2.1) (z10.1 : Int32).toNatClampNeg (-6)), (z10.2).2.2.2.2.2.2.2.2)) H := hP
      have hD : va_D A (modelW k a ((z10.2).1, (z10.2).2.1, (z10.2).2.2.1, (z10.2).2.2.2.1, (z10.2).2.2.2.2.1, (z10.2).2.2.2.2.2.1, (z10.2).2.2.2.2.2.2.1, (upd ((z10.2).2.2.2.2.2.2.2.1) (z10.1 : Int32).toNatClampNeg (-6)), (z10.2).2.2.2.2.2.2.2.2)) := hD
      refine lv_iinc (v := (z10.1 + 1)) (lv' := [(1, .int (z10.1 + 1)), (0, .ref (a 0))]) hx hb dX5_init_157 hl (k := 1) rfl rfl (by decide) rfl (fun ls hl => ?_)
      refine lv_goto (tgt := 142) hx hb dX5_init_160 (by decide) ?_
      exact kI13 _ (Option.some.inj hB11).symm ls H locs (lv_sub hl [1, 0] rfl) hP hD hS
  refine lp_W (P := fun z3 => ∀ (ls : Array Slot) (H : Heap) (locs : List Loc), lv_has ls 2 [(0, .ref (a 0)), (1, .int z3.1)] → va_P D vwCl (modelW k a z3.2) H → va_D A (modelW k a z3.2) → va_S A s.heap H locs → W p l e rm_X5_init s m args below meth c H locs 14 3250 Q (F0 m 120 ls [])) (E := fun x1 => ∀ (ls : Array Slot) (H : Heap) (locs : List Loc), lv_has ls 2 [(0, .ref (a 0))] → va_P D vwCl (modelW k a x1) H → va_D A (modelW k a x1) → va_S A s.heap H locs → W p l e rm_X5_init s m args below meth c H locs 14 3250 Q (F0 m 140 ls [])) (fun z3 xx5 hB4 kI6 kE7 => ?_) _ _ _ h2 K20 ls H locs (lv_sub hl [1, 0] rfl) hP hD hS
  intro ls H locs hl hP hD hS
  unfold f_X5_init_L120 at hB4
  refine lv_iload_n hx hb dX5_init_120 rfl (lv_at hl 1 rfl) ?_
  refine lv_bipush (v := 16) hx hb dX5_init_121 (by decide) ?_
  refine lv_icmp_ge (tgt := 140) hx hb dX5_init_123 (by decide) (fun c18 => ?_) (fun c18 => ?_)
  · have hB4 := if_t hB4 c18
    exact kE7 _ (Option.some.inj hB4).symm ls H locs (lv_sub hl [0] rfl) hP hD hS
  · have hB4 := if_f hB4 c18
    refine lv_aload_n hx hb dX5_init_126 rfl (lv_at hl 0 rfl) ?_
    refine va_get (D := D) (ci := 5) (v := .ref (a 2)) (C := RX5) (T := TX5) (N := 19) hx hb hts hiRX5 hown hK hP 0 rfl rfl 1 (by decide) hf13 (fun _ h9 => h9) rfl dX5_init_127 ?_
    refine lv_iload_n hx hb dX5_init_130 rfl (lv_at hl 1 rfl) ?_
    refine lv_bipush (v := 15) hx hb dX5_init_131 (by decide) ?_
    obtain ⟨c19, hB4⟩ := gd_s hB4
    refine va_iast (D := D) hx hb hK hP hD hS 2 0 rfl rfl (ix_in c19) dX5_init_133 (fun H locs hP hD hS => ?_)
    have hP : va_P D vwCl (modelW k a ((z3.2).1, (upd ((z3.2).2.1) (z3.1 : Int32).toNatClampNeg 15), (z3.2).2.2)) H := hP
    have hD : va_D A (modelW k a ((z3.2).1, (upd ((z3.2).2.1) (z3.1 : Int32).toNatClampNeg 15), (z3.2).2.2)) := hD
    refine lv_iinc (v := (z3.1 + 1)) (lv' := [(1, .int (z3.1 + 1)), (0, .ref (a 0))]) hx hb dX5_init_134 hl (k := 1) rfl rfl (by decide) rfl (fun ls hl => ?_)
    refine lv_goto (tgt := 120) hx hb dX5_init_137 (by decide) ?_
    exact kI6 _ (Option.some.inj hB4).symm ls H locs (lv_sub hl [1, 0] rfl) hP hD hS

abbrev rm_X2_init : Room := { frames := 2, cells := 8, slots := 820, locals := 33 }
set_option maxHeartbeats 4000000 in
set_option maxRecDepth 100000 in
theorem c_X2_init (l : Launch) (D : va_G) (k : Nat → ClassId) (h0 sz : Nat) (C0 : CellV) (hC0 : f_X0_init = some C0) : Met l yX2_init wsX2_init rm_X2_init (va_Pc [.ref h0] (CB D k sz [(h0, .inr (2, [.int 0, .int 0, .int 0, .null, .null, .null, .null, .null]))])) (QC D [(h0, .inr (2, [.int 0, .int 0, .int 0, .null, .null, .null, .null, .null]))] sz h0 (fun a => searchW k a ((1000000000 : Int32), (0 : Int32), (0 : Int32), C0, (fun _ => (0 : Int32)), (fun _ => (0 : Int32)), (fun _ => (0 : Int32)), (fun _ => (0 : Int32))))) 8 820 (va_A [(h0, .inr (2, [.int 0, .int 0, .int 0, .null, .null, .null, .null, .null]))] sz) := by
  refine met_C (by decide) rfl rfl (Nat.le_of_ble_eq_true rfl) ?_
  intro p e s m below meth c Q args ls A hx hb hml hown hts hin hP hK hN hA1 hA2 hD hA hl hQ
  have hown : s.vm.findClass RX2 = some m.cls := hown
  have hS : va_S A s.heap s.heap [] := va_S.rf
  have hiRX0 : ∀ w ∈ u_ws RX0 TX0 4, w ∈ wsX2_init := by decide +kernel
  have hiRX2 : ∀ w ∈ u_ws RX2 TX2 8, w ∈ wsX2_init := by decide +kernel
  have hf10 := hts (.fieldLink RX2 10 "RainCells$Search" "least" "I") (by decide +kernel)
  have hf16 := hts (.fieldLink RX2 16 "RainCells$Search" "leastX" "I") (by decide +kernel)
  have hf19 := hts (.fieldLink RX2 19 "RainCells$Search" "leastY" "I") (by decide +kernel)
  have hf25 := hts (.fieldLink RX2 25 "RainCells$Search" "cells" "LRainCells$Cells;") (by decide +kernel)
  have hf29 := hts (.fieldLink RX2 29 "RainCells$Search" "lefts" "[I") (by decide +kernel)
  have hf33 := hts (.fieldLink RX2 33 "RainCells$Search" "fars" "[I") (by decide +kernel)
  have hf36 := hts (.fieldLink RX2 36 "RainCells$Search" "rowMost" "[I") (by decide +kernel)
  have hf39 := hts (.fieldLink RX2 39 "RainCells$Search" "rowFar" "[I") (by decide +kernel)
  refine lv_aload_n hx hb dX2_init_0 rfl (lv_at hl 0 rfl) ?_
  refine W.objInit hx hb hown (hts (.methodLink RX2 3 objectInit) (by decide +kernel)) (hts (.instanceMethod objectInit) (by decide +kernel)) (hts _ (List.mem_of_getElem? (i := 3) rfl)) rfl (by rw [hml]; exact hl.1) rfl dX2_init_1 (Nat.le_of_ble_eq_true rfl) (Nat.le_of_ble_eq_true rfl) ?_
  refine W.eq (g2 := F0 m 4 ls []) rfl ?_
  refine lv_aload_n hx hb dX2_init_4 rfl (lv_at hl 0 rfl) ?_
  refine lv_ldc hx hb hown (hts (.constant RX2 9 (1000000000)) (by decide +kernel)) dX2_init_5 ?_
  refine va_put (D := D) (ci := 2) (v := .int 1000000000) (ty := .int) (C := RX2) (T := TX2) (N := 8) hx hb hts hiRX2 tyX2 tyX2_ok nmX2 hown hK hP hD hS 0 rfl rfl 0 (by decide) hf10 (fun _ h9 => h9) rfl (by decide +kernel) rfl rfl (Nat.le_of_ble_eq_true rfl) dX2_init_7 (fun H locs hP hD hS => ?_)
  have hP : va_P D vwCl ([(h0, .inr (2, [.int 1000000000, .int 0, .int 0, .null, .null, .null, .null, .null]))]) H := hP
  have hD : va_D A ([(h0, .inr (2, [.int 1000000000, .int 0, .int 0, .null, .null, .null, .null, .null]))]) := hD
  refine lv_aload_n hx hb dX2_init_10 rfl (lv_at hl 0 rfl) ?_
  refine lv_iconst (v := 0) hx hb dX2_init_11 (by decide) ?_
  refine va_put (D := D) (ci := 2) (v := .int 0) (ty := .int) (C := RX2) (T := TX2) (N := 8) hx hb hts hiRX2 tyX2 tyX2_ok nmX2 hown hK hP hD hS 0 rfl rfl 1 (by decide) hf16 (fun _ h9 => h9) rfl (by decide +kernel) rfl rfl (Nat.le_of_ble_eq_true rfl) dX2_init_12 (fun H locs hP hD hS => ?_)
  have hP : va_P D vwCl ([(h0, .inr (2, [.int 1000000000, .int 0, .int 0, .null, .null, .null, .null, .null]))]) H := hP
  have hD : va_D A ([(h0, .inr (2, [.int 1000000000, .int 0, .int 0, .null, .null, .null, .null, .null]))]) := hD
  refine lv_aload_n hx hb dX2_init_15 rfl (lv_at hl 0 rfl) ?_
  refine lv_iconst (v := 0) hx hb dX2_init_16 (by decide) ?_
  refine va_put (D := D) (ci := 2) (v := .int 0) (ty := .int) (C := RX2) (T := TX2) (N := 8) hx hb hts hiRX2 tyX2 tyX2_ok nmX2 hown hK hP hD hS 0 rfl rfl 2 (by decide) hf19 (fun _ h9 => h9) rfl (by decide +kernel) rfl rfl (Nat.le_of_ble_eq_true rfl) dX2_init_17 (fun H locs hP hD hS => ?_)
  have hP : va_P D vwCl ([(h0, .inr (2, [.int 1000000000, .int 0, .int 0, .null, .null, .null, .null, .null]))]) H := hP
  have hD : va_D A ([(h0, .inr (2, [.int 1000000000, .int 0, .int 0, .null, .null, .null, .null, .null]))]) := hD
  refine lv_aload_n hx hb dX2_init_20 rfl (lv_at hl 0 rfl) ?_
  refine va_new (ci := 0) (fs := [.int 0, .null, .null, .null]) (C := RX0) (T := TX0) (N := 4) hx hb hts hiRX0 tyX0 tyX0_ok hown (hts (.classLink RX2 22 RX0) (by decide +kernel)) (hts (.instantiable RX0 4) (by decide +kernel)) (hts (.initialized RX0) (by decide +kernel)) hK hP hD hS hA rfl (fun j hj => by rcases (show j = 0 ∨ j = 1 ∨ j = 2 ∨ j = 3 by omega) with rfl | rfl | rfl | rfl <;> rfl) (Nat.le_of_ble_eq_true rfl) (Nat.le_of_ble_eq_true rfl) dX2_init_21 (fun q1 H hP hD hS => ?_)
  have hP : va_P D vwCl ((h0, .inr (2, [.int 1000000000, .int 0, .int 0, .null, .null, .null, .null, .null])) :: [(q1, .inr (0, [.int 0, .null, .null, .null]))]) H := hP
  have hD : va_D A ((h0, .inr (2, [.int 1000000000, .int 0, .int 0, .null, .null, .null, .null, .null])) :: [(q1, .inr (0, [.int 0, .null, .null, .null]))]) := hD
  refine lv_dup hx hb dX2_init_24 rfl ?_
  refine cI (rest := [.ref q1, .ref h0]) (wr := [(h0, .inr (2, [.int 1000000000, .int 0, .int 0, .null, .null, .null, .null, .null]))]) hx hb hml hown hts hK hN hA1 hA2 hl.1 hP hD hS hA [1] [0] rfl rfl (by decide) (by decide) (c_X0_init l D k q1 H.size C0 hC0) (cwI 0 hts ggX2_init_X0_init rfl rfl rfl (hts (.initialized RX0) (by decide +kernel)) (hts (.methodLink RX2 24 yX0_init) (by decide +kernel)) (hts (.instanceMethod yX0_init) (by decide +kernel)) rfl (by decide +kernel) ⟨Nat.le_of_ble_eq_true rfl, Nat.le_of_ble_eq_true rfl⟩) (Nat.le_of_ble_eq_true rfl) dX2_init_25 ⟨Nat.le_of_ble_eq_true rfl, Nat.le_of_ble_eq_true rfl⟩ (fun a2 H locs e9 hPn hDn hS => ?_)
  subst e9
  have hP := hPn
  have hD := hDn
  have hP : va_P D vwCl ((h0, .inr (2, [.int 1000000000, .int 0, .int 0, .null, .null, .null, .null, .null])) :: cellsW k a2 C0) H := hP
  have hD : va_D A ((h0, .inr (2, [.int 1000000000, .int 0, .int 0, .null, .null, .null, .null, .null])) :: cellsW k a2 C0) := hD
  refine va_putF (D := D) (ci := 2) (v := .ref (a2 0)) (ty := (.object "RainCells$Cells")) (C := RX2) (T := TX2) (N := 8) hx hb hts hiRX2 tyX2 tyX2_ok nmX2 hown hK hP hD hS 0 rfl rfl 3 (by decide) hf25 (fun _ h9 => h9) rfl hin rfl (by decide +kernel) rfl rfl (Nat.le_of_ble_eq_true rfl) dX2_init_28 (fun H locs hP hD hS => ?_)
  have hP : va_P D vwCl ((h0, .inr (2, [.int 1000000000, .int 0, .int 0, .ref (a2 0), .null, .null, .null, .null])) :: cellsW k a2 C0) H := hP
  have hD : va_D A ((h0, .inr (2, [.int 1000000000, .int 0, .int 0, .ref (a2 0), .null, .null, .null, .null])) :: cellsW k a2 C0) := hD
  refine lv_aload_n hx hb dX2_init_31 rfl (lv_at hl 0 rfl) ?_
  refine lv_sipush (v := 256) hx hb dX2_init_32 (by decide) ?_
  refine va_newa (atype := .int) (n := 256) (N' := 256) (a0 := (256, .inl (fun _ => 0))) hx hb (hts (.arrayClass .int) (by decide +kernel)) rfl hK hP hD hS hA (fun _ => rfl) (by decide) (by decide) (by decide) (Nat.le_of_ble_eq_true rfl) (Nat.le_of_ble_eq_true rfl) dX2_init_35 (fun q3 cA H hK1 hP hD hS => ?_)
  obtain rfl := ra_int hK hK1
  have hP : va_P D vwCl ((h0, .inr (2, [.int 1000000000, .int 0, .int 0, .ref (a2 0), .null, .null, .null, .null])) :: cellsW k a2 C0 ++ ([(q3, .inl (k 0, 256, .inl (fun _ => 0)))])) H := hP
  have hD : va_D A ((h0, .inr (2, [.int 1000000000, .int 0, .int 0, .ref (a2 0), .null, .null, .null, .null])) :: cellsW k a2 C0 ++ ([(q3, .inl (k 0, 256, .inl (fun _ => 0)))])) := hD
  refine va_putF (D := D) (ci := 2) (v := .ref q3) (ty := (.array .int)) (C := RX2) (T := TX2) (N := 8) hx hb hts hiRX2 tyX2 tyX2_ok nmX2 hown hK hP hD hS 0 rfl rfl 4 (by decide) hf29 (fun _ h9 => h9) rfl hin rfl (by decide +kernel) rfl rfl (Nat.le_of_ble_eq_true rfl) dX2_init_37 (fun H locs hP hD hS => ?_)
  have hP : va_P D vwCl ((h0, .inr (2, [.int 1000000000, .int 0, .int 0, .ref (a2 0), .ref q3, .null, .null, .null])) :: cellsW k a2 C0 ++ ([(q3, .inl (k 0, 256, .inl (fun _ => 0)))])) H := hP
  have hD : va_D A ((h0, .inr (2, [.int 1000000000, .int 0, .int 0, .ref (a2 0), .ref q3, .null, .null, .null])) :: cellsW k a2 C0 ++ ([(q3, .inl (k 0, 256, .inl (fun _ => 0)))])) := hD
  refine lv_aload_n hx hb dX2_init_40 rfl (lv_at hl 0 rfl) ?_
  refine lv_sipush (v := 256) hx hb dX2_init_41 (by decide) ?_
  refine va_newa (atype := .int) (n := 256) (N' := 256) (a0 := (256, .inl (fun _ => 0))) hx hb (hts (.arrayClass .int) (by decide +kernel)) rfl hK hP hD hS hA (fun _ => rfl) (by decide) (by decide) (by decide) (Nat.le_of_ble_eq_true rfl) (Nat.le_of_ble_eq_true rfl) dX2_init_44 (fun q4 cA H hK1 hP hD hS => ?_)
  obtain rfl := ra_int hK hK1
  have hP : va_P D vwCl ((h0, .inr (2, [.int 1000000000, .int 0, .int 0, .ref (a2 0), .ref q3, .null, .null, .null])) :: cellsW k a2 C0 ++ ((q3, .inl (k 0, 256, .inl (fun _ => 0))) :: [(q4, .inl (k 0, 256, .inl (fun _ => 0)))])) H := hP
  have hD : va_D A ((h0, .inr (2, [.int 1000000000, .int 0, .int 0, .ref (a2 0), .ref q3, .null, .null, .null])) :: cellsW k a2 C0 ++ ((q3, .inl (k 0, 256, .inl (fun _ => 0))) :: [(q4, .inl (k 0, 256, .inl (fun _ => 0)))])) := hD
  refine va_putF (D := D) (ci := 2) (v := .ref q4) (ty := (.array .int)) (C := RX2) (T := TX2) (N := 8) hx hb hts hiRX2 tyX2 tyX2_ok nmX2 hown hK hP hD hS 0 rfl rfl 5 (by decide) hf33 (fun _ h9 => h9) rfl hin rfl (by decide +kernel) rfl rfl (Nat.le_of_ble_eq_true rfl) dX2_init_46 (fun H locs hP hD hS => ?_)
  have hP : va_P D vwCl ((h0, .inr (2, [.int 1000000000, .int 0, .int 0, .ref (a2 0), .ref q3, .ref q4, .null, .null])) :: cellsW k a2 C0 ++ ((q3, .inl (k 0, 256, .inl (fun _ => 0))) :: [(q4, .inl (k 0, 256, .inl (fun _ => 0)))])) H := hP
  have hD : va_D A ((h0, .inr (2, [.int 1000000000, .int 0, .int 0, .ref (a2 0), .ref q3, .ref q4, .null, .null])) :: cellsW k a2 C0 ++ ((q3, .inl (k 0, 256, .inl (fun _ => 0))) :: [(q4, .inl (k 0, 256, .inl (fun _ => 0)))])) := hD
  refine lv_aload_n hx hb dX2_init_49 rfl (lv_at hl 0 rfl) ?_
  refine lv_bipush (v := 16) hx hb dX2_init_50 (by decide) ?_
  refine va_newa (atype := .int) (n := 16) (N' := 16) (a0 := (16, .inl (fun _ => 0))) hx hb (hts (.arrayClass .int) (by decide +kernel)) rfl hK hP hD hS hA (fun _ => rfl) (by decide) (by decide) (by decide) (Nat.le_of_ble_eq_true rfl) (Nat.le_of_ble_eq_true rfl) dX2_init_52 (fun q5 cA H hK1 hP hD hS => ?_)
  obtain rfl := ra_int hK hK1
  have hP : va_P D vwCl ((h0, .inr (2, [.int 1000000000, .int 0, .int 0, .ref (a2 0), .ref q3, .ref q4, .null, .null])) :: cellsW k a2 C0 ++ ((q3, .inl (k 0, 256, .inl (fun _ => 0))) :: (q4, .inl (k 0, 256, .inl (fun _ => 0))) :: [(q5, .inl (k 0, 16, .inl (fun _ => 0)))])) H := hP
  have hD : va_D A ((h0, .inr (2, [.int 1000000000, .int 0, .int 0, .ref (a2 0), .ref q3, .ref q4, .null, .null])) :: cellsW k a2 C0 ++ ((q3, .inl (k 0, 256, .inl (fun _ => 0))) :: (q4, .inl (k 0, 256, .inl (fun _ => 0))) :: [(q5, .inl (k 0, 16, .inl (fun _ => 0)))])) := hD
  refine va_putF (D := D) (ci := 2) (v := .ref q5) (ty := (.array .int)) (C := RX2) (T := TX2) (N := 8) hx hb hts hiRX2 tyX2 tyX2_ok nmX2 hown hK hP hD hS 0 rfl rfl 6 (by decide) hf36 (fun _ h9 => h9) rfl hin rfl (by decide +kernel) rfl rfl (Nat.le_of_ble_eq_true rfl) dX2_init_54 (fun H locs hP hD hS => ?_)
  have hP : va_P D vwCl ((h0, .inr (2, [.int 1000000000, .int 0, .int 0, .ref (a2 0), .ref q3, .ref q4, .ref q5, .null])) :: cellsW k a2 C0 ++ ((q3, .inl (k 0, 256, .inl (fun _ => 0))) :: (q4, .inl (k 0, 256, .inl (fun _ => 0))) :: [(q5, .inl (k 0, 16, .inl (fun _ => 0)))])) H := hP
  have hD : va_D A ((h0, .inr (2, [.int 1000000000, .int 0, .int 0, .ref (a2 0), .ref q3, .ref q4, .ref q5, .null])) :: cellsW k a2 C0 ++ ((q3, .inl (k 0, 256, .inl (fun _ => 0))) :: (q4, .inl (k 0, 256, .inl (fun _ => 0))) :: [(q5, .inl (k 0, 16, .inl (fun _ => 0)))])) := hD
  refine lv_aload_n hx hb dX2_init_57 rfl (lv_at hl 0 rfl) ?_
  refine lv_bipush (v := 16) hx hb dX2_init_58 (by decide) ?_
  refine va_newa (atype := .int) (n := 16) (N' := 16) (a0 := (16, .inl (fun _ => 0))) hx hb (hts (.arrayClass .int) (by decide +kernel)) rfl hK hP hD hS hA (fun _ => rfl) (by decide) (by decide) (by decide) (Nat.le_of_ble_eq_true rfl) (Nat.le_of_ble_eq_true rfl) dX2_init_60 (fun q6 cA H hK1 hP hD hS => ?_)
  obtain rfl := ra_int hK hK1
  have hP : va_P D vwCl ((h0, .inr (2, [.int 1000000000, .int 0, .int 0, .ref (a2 0), .ref q3, .ref q4, .ref q5, .null])) :: cellsW k a2 C0 ++ ((q3, .inl (k 0, 256, .inl (fun _ => 0))) :: (q4, .inl (k 0, 256, .inl (fun _ => 0))) :: (q5, .inl (k 0, 16, .inl (fun _ => 0))) :: [(q6, .inl (k 0, 16, .inl (fun _ => 0)))])) H := hP
  have hD : va_D A ((h0, .inr (2, [.int 1000000000, .int 0, .int 0, .ref (a2 0), .ref q3, .ref q4, .ref q5, .null])) :: cellsW k a2 C0 ++ ((q3, .inl (k 0, 256, .inl (fun _ => 0))) :: (q4, .inl (k 0, 256, .inl (fun _ => 0))) :: (q5, .inl (k 0, 16, .inl (fun _ => 0))) :: [(q6, .inl (k 0, 16, .inl (fun _ => 0)))])) := hD
  refine va_putF (D := D) (ci := 2) (v := .ref q6) (ty := (.array .int)) (C := RX2) (T := TX2) (N := 8) hx hb hts hiRX2 tyX2 tyX2_ok nmX2 hown hK hP hD hS 0 rfl rfl 7 (by decide) hf39 (fun _ h9 => h9) rfl hin rfl (by decide +kernel) rfl rfl (Nat.le_of_ble_eq_true rfl) dX2_init_62 (fun H locs hP hD hS => ?_)
  have hP : va_P D vwCl ((h0, .inr (2, [.int 1000000000, .int 0, .int 0, .ref (a2 0), .ref q3, .ref q4, .ref q5, .ref q6])) :: cellsW k a2 C0 ++ ((q3, .inl (k 0, 256, .inl (fun _ => 0))) :: (q4, .inl (k 0, 256, .inl (fun _ => 0))) :: (q5, .inl (k 0, 16, .inl (fun _ => 0))) :: [(q6, .inl (k 0, 16, .inl (fun _ => 0)))])) H := hP
  have hD : va_D A ((h0, .inr (2, [.int 1000000000, .int 0, .int 0, .ref (a2 0), .ref q3, .ref q4, .ref q5, .ref q6])) :: cellsW k a2 C0 ++ ((q3, .inl (k 0, 256, .inl (fun _ => 0))) :: (q4, .inl (k 0, 256, .inl (fun _ => 0))) :: (q5, .inl (k 0, 16, .inl (fun _ => 0))) :: [(q6, .inl (k 0, 16, .inl (fun _ => 0)))])) := hD
  obtain ⟨a, ha⟩ : ∃ a : Nat → Nat, a = fun n => ([h0, a2 0, a2 1, a2 2, a2 3, q3, q4, q5, q6] : List Nat).getD n 0 := ⟨_, rfl⟩
  have ha0 : a 0 = h0 := by rw [ha]; rfl
  have hP : va_P D vwCl (searchW k a ((1000000000 : Int32), (0 : Int32), (0 : Int32), C0, (fun _ => (0 : Int32)), (fun _ => (0 : Int32)), (fun _ => (0 : Int32)), (fun _ => (0 : Int32)))) H := by rw [ha]; exact hP.sub [0, 1, 2, 3, 4, 5, 6, 7, 8] rfl
  have hD : va_D A (searchW k a ((1000000000 : Int32), (0 : Int32), (0 : Int32), C0, (fun _ => (0 : Int32)), (fun _ => (0 : Int32)), (fun _ => (0 : Int32)), (fun _ => (0 : Int32)))) := by rw [ha]; exact hD.sub [0, 1, 2, 3, 4, 5, 6, 7, 8] (by decide) rfl
  exact hQ _ _ _ _ a dX2_init_65 ha0 hP hD hS

abbrev rm_X3_init : Room := { frames := 2, cells := 30, slots := 2194, locals := 33 }
set_option maxHeartbeats 4000000 in
set_option maxRecDepth 100000 in
theorem c_X3_init (l : Launch) (D : va_G) (k : Nat → ClassId) (h0 sz : Nat) (C0 : CellV) (hC0 : f_X0_init = some C0) : Met l yX3_init wsX3_init rm_X3_init (va_Pc [.ref h0] (CB D k sz [(h0, .inr (3, [.null, .int 0, .int 0, .int 0, .int 0, .null, .null]))])) (QC D [(h0, .inr (3, [.null, .int 0, .int 0, .int 0, .int 0, .null, .null]))] sz h0 (fun a => storeW k a ((fun j => j + 1), (0 : Int32), (0 : Int32), (0 : Int32), (0 : Int32), (fun _ => (0 : Int32)), (fun _ => C0)))) 30 2194 (va_A [(h0, .inr (3, [.null, .int 0, .int 0, .int 0, .int 0, .null, .null]))] sz) := by
  refine met_C (by decide) rfl rfl (Nat.le_of_ble_eq_true rfl) ?_
  intro p e s m below meth c Q args ls A hx hb hml hown hts hin hP hK hN hA1 hA2 hD hA hl hQ
  have hown : s.vm.findClass RX3 = some m.cls := hown
  have hS : va_S A s.heap s.heap [] := va_S.rf
  have hiRX0 : ∀ w ∈ u_ws RX0 TX0 4, w ∈ wsX3_init := by decide +kernel
  have hiRX3 : ∀ w ∈ u_ws RX3 TX3 7, w ∈ wsX3_init := by decide +kernel
  have hf11 := hts (.fieldLink RX3 11 "RainCells$Store" "cells" "[LRainCells$Cells;") (by decide +kernel)
  have hf17 := hts (.fieldLink RX3 17 "RainCells$Store" "size" "I") (by decide +kernel)
  have hf21 := hts (.fieldLink RX3 21 "RainCells$Store" "found" "I") (by decide +kernel)
  have hf24 := hts (.fieldLink RX3 24 "RainCells$Store" "workedOut" "I") (by decide +kernel)
  have hf27 := hts (.fieldLink RX3 27 "RainCells$Store" "replaced" "I") (by decide +kernel)
  have hf31 := hts (.fieldLink RX3 31 "RainCells$Store" "empty" "LRainCells$Cells;") (by decide +kernel)
  have hf35 := hts (.fieldLink RX3 35 "RainCells$Store" "lefts" "[I") (by decide +kernel)
  refine lv_aload_n hx hb dX3_init_0 rfl (lv_at hl 0 rfl) ?_
  refine W.objInit hx hb hown (hts (.methodLink RX3 3 objectInit) (by decide +kernel)) (hts (.instanceMethod objectInit) (by decide +kernel)) (hts _ (List.mem_of_getElem? (i := 3) rfl)) rfl (by rw [hml]; exact hl.1) rfl dX3_init_1 (Nat.le_of_ble_eq_true rfl) (Nat.le_of_ble_eq_true rfl) ?_
  refine W.eq (g2 := F0 m 4 ls []) rfl ?_
  refine lv_aload_n hx hb dX3_init_4 rfl (lv_at hl 0 rfl) ?_
  refine lv_bipush (v := 6) hx hb dX3_init_5 (by decide) ?_
  refine va_newq (n := 6) (N' := 6) hx hb hown (hts (.classLink RX3 9 RX0) (by decide +kernel)) hA1 hK hP hD hS hA (by decide) (by decide) (by decide) (Nat.le_of_ble_eq_true rfl) (Nat.le_of_ble_eq_true rfl) dX3_init_7 (fun q1 cA H hK1 hP hD hS => ?_)
  obtain rfl := ra_cells hK hK1
  have hP : va_P D vwCl ((h0, .inr (3, [.null, .int 0, .int 0, .int 0, .int 0, .null, .null])) :: [(q1, .inl (k 3, 6, .inr (.inr (.inr (.inr (fun _ => none))))))]) H := hP
  have hD : va_D A ((h0, .inr (3, [.null, .int 0, .int 0, .int 0, .int 0, .null, .null])) :: [(q1, .inl (k 3, 6, .inr (.inr (.inr (.inr (fun _ => none))))))]) := hD
  refine va_putF (D := D) (ci := 3) (v := .ref q1) (ty := (.array (.object "RainCells$Cells"))) (C := RX3) (T := TX3) (N := 7) hx hb hts hiRX3 tyX3 tyX3_ok nmX3 hown hK hP hD hS 0 rfl rfl 0 (by decide) hf11 (fun _ h9 => h9) rfl hin rfl (by decide +kernel) rfl rfl (Nat.le_of_ble_eq_true rfl) dX3_init_10 (fun H locs hP hD hS => ?_)
  have hP : va_P D vwCl ((h0, .inr (3, [.ref q1, .int 0, .int 0, .int 0, .int 0, .null, .null])) :: [(q1, .inl (k 3, 6, .inr (.inr (.inr (.inr (fun _ => none))))))]) H := hP
  have hD : va_D A ((h0, .inr (3, [.ref q1, .int 0, .int 0, .int 0, .int 0, .null, .null])) :: [(q1, .inl (k 3, 6, .inr (.inr (.inr (.inr (fun _ => none))))))]) := hD
  refine lv_aload_n hx hb dX3_init_13 rfl (lv_at hl 0 rfl) ?_
  refine lv_iconst (v := 0) hx hb dX3_init_14 (by decide) ?_
  refine va_put (D := D) (ci := 3) (v := .int 0) (ty := .int) (C := RX3) (T := TX3) (N := 7) hx hb hts hiRX3 tyX3 tyX3_ok nmX3 hown hK hP hD hS 0 rfl rfl 1 (by decide) hf17 (fun _ h9 => h9) rfl (by decide +kernel) rfl rfl (Nat.le_of_ble_eq_true rfl) dX3_init_15 (fun H locs hP hD hS => ?_)
  have hP : va_P D vwCl ((h0, .inr (3, [.ref q1, .int 0, .int 0, .int 0, .int 0, .null, .null])) :: [(q1, .inl (k 3, 6, .inr (.inr (.inr (.inr (fun _ => none))))))]) H := hP
  have hD : va_D A ((h0, .inr (3, [.ref q1, .int 0, .int 0, .int 0, .int 0, .null, .null])) :: [(q1, .inl (k 3, 6, .inr (.inr (.inr (.inr (fun _ => none))))))]) := hD
  refine lv_aload_n hx hb dX3_init_18 rfl (lv_at hl 0 rfl) ?_
  refine lv_iconst (v := 0) hx hb dX3_init_19 (by decide) ?_
  refine va_put (D := D) (ci := 3) (v := .int 0) (ty := .int) (C := RX3) (T := TX3) (N := 7) hx hb hts hiRX3 tyX3 tyX3_ok nmX3 hown hK hP hD hS 0 rfl rfl 2 (by decide) hf21 (fun _ h9 => h9) rfl (by decide +kernel) rfl rfl (Nat.le_of_ble_eq_true rfl) dX3_init_20 (fun H locs hP hD hS => ?_)
  have hP : va_P D vwCl ((h0, .inr (3, [.ref q1, .int 0, .int 0, .int 0, .int 0, .null, .null])) :: [(q1, .inl (k 3, 6, .inr (.inr (.inr (.inr (fun _ => none))))))]) H := hP
  have hD : va_D A ((h0, .inr (3, [.ref q1, .int 0, .int 0, .int 0, .int 0, .null, .null])) :: [(q1, .inl (k 3, 6, .inr (.inr (.inr (.inr (fun _ => none))))))]) := hD
  refine lv_aload_n hx hb dX3_init_23 rfl (lv_at hl 0 rfl) ?_
  refine lv_iconst (v := 0) hx hb dX3_init_24 (by decide) ?_
  refine va_put (D := D) (ci := 3) (v := .int 0) (ty := .int) (C := RX3) (T := TX3) (N := 7) hx hb hts hiRX3 tyX3 tyX3_ok nmX3 hown hK hP hD hS 0 rfl rfl 3 (by decide) hf24 (fun _ h9 => h9) rfl (by decide +kernel) rfl rfl (Nat.le_of_ble_eq_true rfl) dX3_init_25 (fun H locs hP hD hS => ?_)
  have hP : va_P D vwCl ((h0, .inr (3, [.ref q1, .int 0, .int 0, .int 0, .int 0, .null, .null])) :: [(q1, .inl (k 3, 6, .inr (.inr (.inr (.inr (fun _ => none))))))]) H := hP
  have hD : va_D A ((h0, .inr (3, [.ref q1, .int 0, .int 0, .int 0, .int 0, .null, .null])) :: [(q1, .inl (k 3, 6, .inr (.inr (.inr (.inr (fun _ => none))))))]) := hD
  refine lv_aload_n hx hb dX3_init_28 rfl (lv_at hl 0 rfl) ?_
  refine lv_iconst (v := 0) hx hb dX3_init_29 (by decide) ?_
  refine va_put (D := D) (ci := 3) (v := .int 0) (ty := .int) (C := RX3) (T := TX3) (N := 7) hx hb hts hiRX3 tyX3 tyX3_ok nmX3 hown hK hP hD hS 0 rfl rfl 4 (by decide) hf27 (fun _ h9 => h9) rfl (by decide +kernel) rfl rfl (Nat.le_of_ble_eq_true rfl) dX3_init_30 (fun H locs hP hD hS => ?_)
  have hP : va_P D vwCl ((h0, .inr (3, [.ref q1, .int 0, .int 0, .int 0, .int 0, .null, .null])) :: [(q1, .inl (k 3, 6, .inr (.inr (.inr (.inr (fun _ => none))))))]) H := hP
  have hD : va_D A ((h0, .inr (3, [.ref q1, .int 0, .int 0, .int 0, .int 0, .null, .null])) :: [(q1, .inl (k 3, 6, .inr (.inr (.inr (.inr (fun _ => none))))))]) := hD
  refine lv_aload_n hx hb dX3_init_33 rfl (lv_at hl 0 rfl) ?_
  refine va_new (ci := 0) (fs := [.int 0, .null, .null, .null]) (C := RX0) (T := TX0) (N := 4) hx hb hts hiRX0 tyX0 tyX0_ok hown (hts (.classLink RX3 9 RX0) (by decide +kernel)) (hts (.instantiable RX0 4) (by decide +kernel)) (hts (.initialized RX0) (by decide +kernel)) hK hP hD hS hA rfl (fun j hj => by rcases (show j = 0 ∨ j = 1 ∨ j = 2 ∨ j = 3 by omega) with rfl | rfl | rfl | rfl <;> rfl) (Nat.le_of_ble_eq_true rfl) (Nat.le_of_ble_eq_true rfl) dX3_init_34 (fun q2 H hP hD hS => ?_)
  have hP : va_P D vwCl ((h0, .inr (3, [.ref q1, .int 0, .int 0, .int 0, .int 0, .null, .null])) :: (q1, .inl (k 3, 6, .inr (.inr (.inr (.inr (fun _ => none)))))) :: [(q2, .inr (0, [.int 0, .null, .null, .null]))]) H := hP
  have hD : va_D A ((h0, .inr (3, [.ref q1, .int 0, .int 0, .int 0, .int 0, .null, .null])) :: (q1, .inl (k 3, 6, .inr (.inr (.inr (.inr (fun _ => none)))))) :: [(q2, .inr (0, [.int 0, .null, .null, .null]))]) := hD
  refine lv_dup hx hb dX3_init_37 rfl ?_
  refine cI (rest := [.ref q2, .ref h0]) (wr := (h0, .inr (3, [.ref q1, .int 0, .int 0, .int 0, .int 0, .null, .null])) :: [(q1, .inl (k 3, 6, .inr (.inr (.inr (.inr (fun _ => none))))))]) hx hb hml hown hts hK hN hA1 hA2 hl.1 hP hD hS hA [2] [0, 1] rfl rfl (by decide) (by decide) (c_X0_init l D k q2 H.size C0 hC0) (cwI 0 hts ggX3_init_X0_init rfl rfl rfl (hts (.initialized RX0) (by decide +kernel)) (hts (.methodLink RX3 30 yX0_init) (by decide +kernel)) (hts (.instanceMethod yX0_init) (by decide +kernel)) rfl (by decide +kernel) ⟨Nat.le_of_ble_eq_true rfl, Nat.le_of_ble_eq_true rfl⟩) (Nat.le_of_ble_eq_true rfl) dX3_init_38 ⟨Nat.le_of_ble_eq_true rfl, Nat.le_of_ble_eq_true rfl⟩ (fun a3 H locs e9 hPn hDn hS => ?_)
  subst e9
  have hP := hPn
  have hD := hDn
  have hP : va_P D vwCl ((h0, .inr (3, [.ref q1, .int 0, .int 0, .int 0, .int 0, .null, .null])) :: (q1, .inl (k 3, 6, .inr (.inr (.inr (.inr (fun _ => none)))))) :: cellsW k a3 C0) H := hP
  have hD : va_D A ((h0, .inr (3, [.ref q1, .int 0, .int 0, .int 0, .int 0, .null, .null])) :: (q1, .inl (k 3, 6, .inr (.inr (.inr (.inr (fun _ => none)))))) :: cellsW k a3 C0) := hD
  refine va_putF (D := D) (ci := 3) (v := .ref (a3 0)) (ty := (.object "RainCells$Cells")) (C := RX3) (T := TX3) (N := 7) hx hb hts hiRX3 tyX3 tyX3_ok nmX3 hown hK hP hD hS 0 rfl rfl 5 (by decide) hf31 (fun _ h9 => h9) rfl hin rfl (by decide +kernel) rfl rfl (Nat.le_of_ble_eq_true rfl) dX3_init_41 (fun H locs hP hD hS => ?_)
  have hP : va_P D vwCl ((h0, .inr (3, [.ref q1, .int 0, .int 0, .int 0, .int 0, .ref (a3 0), .null])) :: (q1, .inl (k 3, 6, .inr (.inr (.inr (.inr (fun _ => none)))))) :: cellsW k a3 C0) H := hP
  have hD : va_D A ((h0, .inr (3, [.ref q1, .int 0, .int 0, .int 0, .int 0, .ref (a3 0), .null])) :: (q1, .inl (k 3, 6, .inr (.inr (.inr (.inr (fun _ => none)))))) :: cellsW k a3 C0) := hD
  refine lv_aload_n hx hb dX3_init_44 rfl (lv_at hl 0 rfl) ?_
  refine lv_sipush (v := 256) hx hb dX3_init_45 (by decide) ?_
  refine va_newa (atype := .int) (n := 256) (N' := 256) (a0 := (256, .inl (fun _ => 0))) hx hb (hts (.arrayClass .int) (by decide +kernel)) rfl hK hP hD hS hA (fun _ => rfl) (by decide) (by decide) (by decide) (Nat.le_of_ble_eq_true rfl) (Nat.le_of_ble_eq_true rfl) dX3_init_48 (fun q4 cA H hK1 hP hD hS => ?_)
  obtain rfl := ra_int hK hK1
  have hP : va_P D vwCl ((h0, .inr (3, [.ref q1, .int 0, .int 0, .int 0, .int 0, .ref (a3 0), .null])) :: (q1, .inl (k 3, 6, .inr (.inr (.inr (.inr (fun _ => none)))))) :: cellsW k a3 C0 ++ ([(q4, .inl (k 0, 256, .inl (fun _ => 0)))])) H := hP
  have hD : va_D A ((h0, .inr (3, [.ref q1, .int 0, .int 0, .int 0, .int 0, .ref (a3 0), .null])) :: (q1, .inl (k 3, 6, .inr (.inr (.inr (.inr (fun _ => none)))))) :: cellsW k a3 C0 ++ ([(q4, .inl (k 0, 256, .inl (fun _ => 0)))])) := hD
  refine va_putF (D := D) (ci := 3) (v := .ref q4) (ty := (.array .int)) (C := RX3) (T := TX3) (N := 7) hx hb hts hiRX3 tyX3 tyX3_ok nmX3 hown hK hP hD hS 0 rfl rfl 6 (by decide) hf35 (fun _ h9 => h9) rfl hin rfl (by decide +kernel) rfl rfl (Nat.le_of_ble_eq_true rfl) dX3_init_50 (fun H locs hP hD hS => ?_)
  have hP : va_P D vwCl ((h0, .inr (3, [.ref q1, .int 0, .int 0, .int 0, .int 0, .ref (a3 0), .ref q4])) :: (q1, .inl (k 3, 6, .inr (.inr (.inr (.inr (fun _ => none)))))) :: cellsW k a3 C0 ++ ([(q4, .inl (k 0, 256, .inl (fun _ => 0)))])) H := hP
  have hD : va_D A ((h0, .inr (3, [.ref q1, .int 0, .int 0, .int 0, .int 0, .ref (a3 0), .ref q4])) :: (q1, .inl (k 3, 6, .inr (.inr (.inr (.inr (fun _ => none)))))) :: cellsW k a3 C0 ++ ([(q4, .inl (k 0, 256, .inl (fun _ => 0)))])) := hD
  refine lv_iconst (v := 0) hx hb dX3_init_53 (by decide) ?_
  refine lv_istore_n (lv' := [(1, .int 0), (0, .ref h0)]) hx hb dX3_init_54 rfl hl (by decide) rfl (fun ls hl => ?_)
  refine lv_iload_n hx hb dX3_init_55 rfl (lv_at hl 0 rfl) ?_
  refine lv_bipush (v := 6) hx hb dX3_init_56 (by decide) ?_
  refine lv_icmp_ge (tgt := 80) hx hb dX3_init_58 (by decide) (fun z => absurd z (by decide)) (fun _ => ?_)
  refine lv_aload_n hx hb dX3_init_61 rfl (lv_at hl 1 rfl) ?_
  refine va_get (D := D) (ci := 3) (v := .ref q1) (C := RX3) (T := TX3) (N := 7) hx hb hts hiRX3 hown hK hP 0 rfl rfl 0 (by decide) hf11 (fun _ h9 => h9) rfl dX3_init_62 ?_
  refine lv_iload_n hx hb dX3_init_65 rfl (lv_at hl 0 rfl) ?_
  refine va_new (ci := 0) (fs := [.int 0, .null, .null, .null]) (C := RX0) (T := TX0) (N := 4) hx hb hts hiRX0 tyX0 tyX0_ok hown (hts (.classLink RX3 9 RX0) (by decide +kernel)) (hts (.instantiable RX0 4) (by decide +kernel)) (hts (.initialized RX0) (by decide +kernel)) hK hP hD hS hA rfl (fun j hj => by rcases (show j = 0 ∨ j = 1 ∨ j = 2 ∨ j = 3 by omega) with rfl | rfl | rfl | rfl <;> rfl) (Nat.le_of_ble_eq_true rfl) (Nat.le_of_ble_eq_true rfl) dX3_init_66 (fun q5 H hP hD hS => ?_)
  have hP : va_P D vwCl ((h0, .inr (3, [.ref q1, .int 0, .int 0, .int 0, .int 0, .ref (a3 0), .ref q4])) :: (q1, .inl (k 3, 6, .inr (.inr (.inr (.inr (fun _ => none)))))) :: cellsW k a3 C0 ++ ((q4, .inl (k 0, 256, .inl (fun _ => 0))) :: [(q5, .inr (0, [.int 0, .null, .null, .null]))])) H := hP
  have hD : va_D A ((h0, .inr (3, [.ref q1, .int 0, .int 0, .int 0, .int 0, .ref (a3 0), .ref q4])) :: (q1, .inl (k 3, 6, .inr (.inr (.inr (.inr (fun _ => none)))))) :: cellsW k a3 C0 ++ ((q4, .inl (k 0, 256, .inl (fun _ => 0))) :: [(q5, .inr (0, [.int 0, .null, .null, .null]))])) := hD
  refine lv_dup hx hb dX3_init_69 rfl ?_
  refine cI (rest := [.ref q5, .int 0, .ref q1]) (wr := (h0, .inr (3, [.ref q1, .int 0, .int 0, .int 0, .int 0, .ref (a3 0), .ref q4])) :: (q1, .inl (k 3, 6, .inr (.inr (.inr (.inr (fun _ => none)))))) :: cellsW k a3 C0 ++ ([(q4, .inl (k 0, 256, .inl (fun _ => 0)))])) hx hb hml hown hts hK hN hA1 hA2 hl.1 hP hD hS hA [7] [0, 1, 2, 3, 4, 5, 6] rfl rfl (by decide) (by decide) (c_X0_init l D k q5 H.size C0 hC0) (cwI 0 hts ggX3_init_X0_init rfl rfl rfl (hts (.initialized RX0) (by decide +kernel)) (hts (.methodLink RX3 30 yX0_init) (by decide +kernel)) (hts (.instanceMethod yX0_init) (by decide +kernel)) rfl (by decide +kernel) ⟨Nat.le_of_ble_eq_true rfl, Nat.le_of_ble_eq_true rfl⟩) (Nat.le_of_ble_eq_true rfl) dX3_init_70 ⟨Nat.le_of_ble_eq_true rfl, Nat.le_of_ble_eq_true rfl⟩ (fun a6 H locs e9 hPn hDn hS => ?_)
  subst e9
  have hP := hPn
  have hD := hDn
  have hP : va_P D vwCl ((h0, .inr (3, [.ref q1, .int 0, .int 0, .int 0, .int 0, .ref (a3 0), .ref q4])) :: (q1, .inl (k 3, 6, .inr (.inr (.inr (.inr (fun _ => none)))))) :: cellsW k a3 C0 ++ ((q4, .inl (k 0, 256, .inl (fun _ => 0))) :: cellsW k a6 C0)) H := hP
  have hD : va_D A ((h0, .inr (3, [.ref q1, .int 0, .int 0, .int 0, .int 0, .ref (a3 0), .ref q4])) :: (q1, .inl (k 3, 6, .inr (.inr (.inr (.inr (fun _ => none)))))) :: cellsW k a3 C0 ++ ((q4, .inl (k 0, 256, .inl (fun _ => 0))) :: cellsW k a6 C0)) := hD
  refine va_astq (D := D) (r := (RX0, TX0, 4)) (v := a6 0) hx hb hK hP hD hS 1 3 7 0 rfl rfl rfl rfl (i := 0) (by unfold vp_in; decide) dX3_init_73 (fun H locs hP hD hS => ?_)
  have hP : va_P D vwCl ((h0, .inr (3, [.ref q1, .int 0, .int 0, .int 0, .int 0, .ref (a3 0), .ref q4])) :: (q1, .inl (k 3, 6, .inr (.inr (.inr (.inr (va_up (fun _ => none) (0 : Int32).toNatClampNeg (some (a6 0)))))))) :: cellsW k a3 C0 ++ ((q4, .inl (k 0, 256, .inl (fun _ => 0))) :: cellsW k a6 C0)) H := hP
  have hD : va_D A ((h0, .inr (3, [.ref q1, .int 0, .int 0, .int 0, .int 0, .ref (a3 0), .ref q4])) :: (q1, .inl (k 3, 6, .inr (.inr (.inr (.inr (va_up (fun _ => none) (0 : Int32).toNatClampNeg (some (a6 0)))))))) :: cellsW k a3 C0 ++ ((q4, .inl (k 0, 256, .inl (fun _ => 0))) :: cellsW k a6 C0)) := hD
  refine lv_iinc (v := 1) (lv' := [(1, .int 1), (0, .ref h0)]) hx hb dX3_init_74 hl (k := 0) rfl (by decide) (by decide) rfl (fun ls hl => ?_)
  refine lv_goto (tgt := 55) hx hb dX3_init_77 (by decide) ?_
  refine lv_iload_n hx hb dX3_init_55 rfl (lv_at hl 0 rfl) ?_
  refine lv_bipush (v := 6) hx hb dX3_init_56 (by decide) ?_
  refine lv_icmp_ge (tgt := 80) hx hb dX3_init_58 (by decide) (fun z => absurd z (by decide)) (fun _ => ?_)
  refine lv_aload_n hx hb dX3_init_61 rfl (lv_at hl 1 rfl) ?_
  refine va_get (D := D) (ci := 3) (v := .ref q1) (C := RX3) (T := TX3) (N := 7) hx hb hts hiRX3 hown hK hP 0 rfl rfl 0 (by decide) hf11 (fun _ h9 => h9) rfl dX3_init_62 ?_
  refine lv_iload_n hx hb dX3_init_65 rfl (lv_at hl 0 rfl) ?_
  refine va_new (ci := 0) (fs := [.int 0, .null, .null, .null]) (C := RX0) (T := TX0) (N := 4) hx hb hts hiRX0 tyX0 tyX0_ok hown (hts (.classLink RX3 9 RX0) (by decide +kernel)) (hts (.instantiable RX0 4) (by decide +kernel)) (hts (.initialized RX0) (by decide +kernel)) hK hP hD hS hA rfl (fun j hj => by rcases (show j = 0 ∨ j = 1 ∨ j = 2 ∨ j = 3 by omega) with rfl | rfl | rfl | rfl <;> rfl) (Nat.le_of_ble_eq_true rfl) (Nat.le_of_ble_eq_true rfl) dX3_init_66 (fun q7 H hP hD hS => ?_)
  have hP : va_P D vwCl ((h0, .inr (3, [.ref q1, .int 0, .int 0, .int 0, .int 0, .ref (a3 0), .ref q4])) :: (q1, .inl (k 3, 6, .inr (.inr (.inr (.inr (va_up (fun _ => none) (0 : Int32).toNatClampNeg (some (a6 0)))))))) :: cellsW k a3 C0 ++ ((q4, .inl (k 0, 256, .inl (fun _ => 0))) :: cellsW k a6 C0 ++ ([(q7, .inr (0, [.int 0, .null, .null, .null]))]))) H := hP
  have hD : va_D A ((h0, .inr (3, [.ref q1, .int 0, .int 0, .int 0, .int 0, .ref (a3 0), .ref q4])) :: (q1, .inl (k 3, 6, .inr (.inr (.inr (.inr (va_up (fun _ => none) (0 : Int32).toNatClampNeg (some (a6 0)))))))) :: cellsW k a3 C0 ++ ((q4, .inl (k 0, 256, .inl (fun _ => 0))) :: cellsW k a6 C0 ++ ([(q7, .inr (0, [.int 0, .null, .null, .null]))]))) := hD
  refine lv_dup hx hb dX3_init_69 rfl ?_
  refine cI (rest := [.ref q7, .int 1, .ref q1]) (wr := (h0, .inr (3, [.ref q1, .int 0, .int 0, .int 0, .int 0, .ref (a3 0), .ref q4])) :: (q1, .inl (k 3, 6, .inr (.inr (.inr (.inr (va_up (fun _ => none) (0 : Int32).toNatClampNeg (some (a6 0)))))))) :: cellsW k a3 C0 ++ ((q4, .inl (k 0, 256, .inl (fun _ => 0))) :: cellsW k a6 C0)) hx hb hml hown hts hK hN hA1 hA2 hl.1 hP hD hS hA [11] [0, 1, 2, 3, 4, 5, 6, 7, 8, 9, 10] rfl rfl (by decide) (by decide) (c_X0_init l D k q7 H.size C0 hC0) (cwI 0 hts ggX3_init_X0_init rfl rfl rfl (hts (.initialized RX0) (by decide +kernel)) (hts (.methodLink RX3 30 yX0_init) (by decide +kernel)) (hts (.instanceMethod yX0_init) (by decide +kernel)) rfl (by decide +kernel) ⟨Nat.le_of_ble_eq_true rfl, Nat.le_of_ble_eq_true rfl⟩) (Nat.le_of_ble_eq_true rfl) dX3_init_70 ⟨Nat.le_of_ble_eq_true rfl, Nat.le_of_ble_eq_true rfl⟩ (fun a8 H locs e9 hPn hDn hS => ?_)
  subst e9
  have hP := hPn
  have hD := hDn
  have hP : va_P D vwCl ((h0, .inr (3, [.ref q1, .int 0, .int 0, .int 0, .int 0, .ref (a3 0), .ref q4])) :: (q1, .inl (k 3, 6, .inr (.inr (.inr (.inr (va_up (fun _ => none) (0 : Int32).toNatClampNeg (some (a6 0)))))))) :: cellsW k a3 C0 ++ ((q4, .inl (k 0, 256, .inl (fun _ => 0))) :: cellsW k a6 C0 ++ (cellsW k a8 C0))) H := hP
  have hD : va_D A ((h0, .inr (3, [.ref q1, .int 0, .int 0, .int 0, .int 0, .ref (a3 0), .ref q4])) :: (q1, .inl (k 3, 6, .inr (.inr (.inr (.inr (va_up (fun _ => none) (0 : Int32).toNatClampNeg (some (a6 0)))))))) :: cellsW k a3 C0 ++ ((q4, .inl (k 0, 256, .inl (fun _ => 0))) :: cellsW k a6 C0 ++ (cellsW k a8 C0))) := hD
  refine va_astq (D := D) (r := (RX0, TX0, 4)) (v := a8 0) hx hb hK hP hD hS 1 3 11 0 rfl rfl rfl rfl (i := 1) (by unfold vp_in; decide) dX3_init_73 (fun H locs hP hD hS => ?_)
  have hP : va_P D vwCl ((h0, .inr (3, [.ref q1, .int 0, .int 0, .int 0, .int 0, .ref (a3 0), .ref q4])) :: (q1, .inl (k 3, 6, .inr (.inr (.inr (.inr (va_up (va_up (fun _ => none) (0 : Int32).toNatClampNeg (some (a6 0))) (1 : Int32).toNatClampNeg (some (a8 0)))))))) :: cellsW k a3 C0 ++ ((q4, .inl (k 0, 256, .inl (fun _ => 0))) :: cellsW k a6 C0 ++ (cellsW k a8 C0))) H := hP
  have hD : va_D A ((h0, .inr (3, [.ref q1, .int 0, .int 0, .int 0, .int 0, .ref (a3 0), .ref q4])) :: (q1, .inl (k 3, 6, .inr (.inr (.inr (.inr (va_up (va_up (fun _ => none) (0 : Int32).toNatClampNeg (some (a6 0))) (1 : Int32).toNatClampNeg (some (a8 0)))))))) :: cellsW k a3 C0 ++ ((q4, .inl (k 0, 256, .inl (fun _ => 0))) :: cellsW k a6 C0 ++ (cellsW k a8 C0))) := hD
  refine lv_iinc (v := 2) (lv' := [(1, .int 2), (0, .ref h0)]) hx hb dX3_init_74 hl (k := 0) rfl (by decide) (by decide) rfl (fun ls hl => ?_)
  refine lv_goto (tgt := 55) hx hb dX3_init_77 (by decide) ?_
  refine lv_iload_n hx hb dX3_init_55 rfl (lv_at hl 0 rfl) ?_
  refine lv_bipush (v := 6) hx hb dX3_init_56 (by decide) ?_
  refine lv_icmp_ge (tgt := 80) hx hb dX3_init_58 (by decide) (fun z => absurd z (by decide)) (fun _ => ?_)
  refine lv_aload_n hx hb dX3_init_61 rfl (lv_at hl 1 rfl) ?_
  refine va_get (D := D) (ci := 3) (v := .ref q1) (C := RX3) (T := TX3) (N := 7) hx hb hts hiRX3 hown hK hP 0 rfl rfl 0 (by decide) hf11 (fun _ h9 => h9) rfl dX3_init_62 ?_
  refine lv_iload_n hx hb dX3_init_65 rfl (lv_at hl 0 rfl) ?_
  refine va_new (ci := 0) (fs := [.int 0, .null, .null, .null]) (C := RX0) (T := TX0) (N := 4) hx hb hts hiRX0 tyX0 tyX0_ok hown (hts (.classLink RX3 9 RX0) (by decide +kernel)) (hts (.instantiable RX0 4) (by decide +kernel)) (hts (.initialized RX0) (by decide +kernel)) hK hP hD hS hA rfl (fun j hj => by rcases (show j = 0 ∨ j = 1 ∨ j = 2 ∨ j = 3 by omega) with rfl | rfl | rfl | rfl <;> rfl) (Nat.le_of_ble_eq_true rfl) (Nat.le_of_ble_eq_true rfl) dX3_init_66 (fun q9 H hP hD hS => ?_)
  have hP : va_P D vwCl ((h0, .inr (3, [.ref q1, .int 0, .int 0, .int 0, .int 0, .ref (a3 0), .ref q4])) :: (q1, .inl (k 3, 6, .inr (.inr (.inr (.inr (va_up (va_up (fun _ => none) (0 : Int32).toNatClampNeg (some (a6 0))) (1 : Int32).toNatClampNeg (some (a8 0)))))))) :: cellsW k a3 C0 ++ ((q4, .inl (k 0, 256, .inl (fun _ => 0))) :: cellsW k a6 C0 ++ (cellsW k a8 C0 ++ ([(q9, .inr (0, [.int 0, .null, .null, .null]))])))) H := hP
  have hD : va_D A ((h0, .inr (3, [.ref q1, .int 0, .int 0, .int 0, .int 0, .ref (a3 0), .ref q4])) :: (q1, .inl (k 3, 6, .inr (.inr (.inr (.inr (va_up (va_up (fun _ => none) (0 : Int32).toNatClampNeg (some (a6 0))) (1 : Int32).toNatClampNeg (some (a8 0)))))))) :: cellsW k a3 C0 ++ ((q4, .inl (k 0, 256, .inl (fun _ => 0))) :: cellsW k a6 C0 ++ (cellsW k a8 C0 ++ ([(q9, .inr (0, [.int 0, .null, .null, .null]))])))) := hD
  refine lv_dup hx hb dX3_init_69 rfl ?_
  refine cI (rest := [.ref q9, .int 2, .ref q1]) (wr := (h0, .inr (3, [.ref q1, .int 0, .int 0, .int 0, .int 0, .ref (a3 0), .ref q4])) :: (q1, .inl (k 3, 6, .inr (.inr (.inr (.inr (va_up (va_up (fun _ => none) (0 : Int32).toNatClampNeg (some (a6 0))) (1 : Int32).toNatClampNeg (some (a8 0)))))))) :: cellsW k a3 C0 ++ ((q4, .inl (k 0, 256, .inl (fun _ => 0))) :: cellsW k a6 C0 ++ (cellsW k a8 C0))) hx hb hml hown hts hK hN hA1 hA2 hl.1 hP hD hS hA [15] [0, 1, 2, 3, 4, 5, 6, 7, 8, 9, 10, 11, 12, 13, 14] rfl rfl (by decide) (by decide) (c_X0_init l D k q9 H.size C0 hC0) (cwI 0 hts ggX3_init_X0_init rfl rfl rfl (hts (.initialized RX0) (by decide +kernel)) (hts (.methodLink RX3 30 yX0_init) (by decide +kernel)) (hts (.instanceMethod yX0_init) (by decide +kernel)) rfl (by decide +kernel) ⟨Nat.le_of_ble_eq_true rfl, Nat.le_of_ble_eq_true rfl⟩) (Nat.le_of_ble_eq_true rfl) dX3_init_70 ⟨Nat.le_of_ble_eq_true rfl, Nat.le_of_ble_eq_true rfl⟩ (fun a10 H locs e9 hPn hDn hS => ?_)
  subst e9
  have hP := hPn
  have hD := hDn
  have hP : va_P D vwCl ((h0, .inr (3, [.ref q1, .int 0, .int 0, .int 0, .int 0, .ref (a3 0), .ref q4])) :: (q1, .inl (k 3, 6, .inr (.inr (.inr (.inr (va_up (va_up (fun _ => none) (0 : Int32).toNatClampNeg (some (a6 0))) (1 : Int32).toNatClampNeg (some (a8 0)))))))) :: cellsW k a3 C0 ++ ((q4, .inl (k 0, 256, .inl (fun _ => 0))) :: cellsW k a6 C0 ++ (cellsW k a8 C0 ++ (cellsW k a10 C0)))) H := hP
  have hD : va_D A ((h0, .inr (3, [.ref q1, .int 0, .int 0, .int 0, .int 0, .ref (a3 0), .ref q4])) :: (q1, .inl (k 3, 6, .inr (.inr (.inr (.inr (va_up (va_up (fun _ => none) (0 : Int32).toNatClampNeg (some (a6 0))) (1 : Int32).toNatClampNeg (some (a8 0)))))))) :: cellsW k a3 C0 ++ ((q4, .inl (k 0, 256, .inl (fun _ => 0))) :: cellsW k a6 C0 ++ (cellsW k a8 C0 ++ (cellsW k a10 C0)))) := hD
  refine va_astq (D := D) (r := (RX0, TX0, 4)) (v := a10 0) hx hb hK hP hD hS 1 3 15 0 rfl rfl rfl rfl (i := 2) (by unfold vp_in; decide) dX3_init_73 (fun H locs hP hD hS => ?_)
  have hP : va_P D vwCl ((h0, .inr (3, [.ref q1, .int 0, .int 0, .int 0, .int 0, .ref (a3 0), .ref q4])) :: (q1, .inl (k 3, 6, .inr (.inr (.inr (.inr (va_up (va_up (va_up (fun _ => none) (0 : Int32).toNatClampNeg (some (a6 0))) (1 : Int32).toNatClampNeg (some (a8 0))) (2 : Int32).toNatClampNeg (some (a10 0)))))))) :: cellsW k a3 C0 ++ ((q4, .inl (k 0, 256, .inl (fun _ => 0))) :: cellsW k a6 C0 ++ (cellsW k a8 C0 ++ (cellsW k a10 C0)))) H := hP
  have hD : va_D A ((h0, .inr (3, [.ref q1, .int 0, .int 0, .int 0, .int 0, .ref (a3 0), .ref q4])) :: (q1, .inl (k 3, 6, .inr (.inr (.inr (.inr (va_up (va_up (va_up (fun _ => none) (0 : Int32).toNatClampNeg (some (a6 0))) (1 : Int32).toNatClampNeg (some (a8 0))) (2 : Int32).toNatClampNeg (some (a10 0)))))))) :: cellsW k a3 C0 ++ ((q4, .inl (k 0, 256, .inl (fun _ => 0))) :: cellsW k a6 C0 ++ (cellsW k a8 C0 ++ (cellsW k a10 C0)))) := hD
  refine lv_iinc (v := 3) (lv' := [(1, .int 3), (0, .ref h0)]) hx hb dX3_init_74 hl (k := 0) rfl (by decide) (by decide) rfl (fun ls hl => ?_)
  refine lv_goto (tgt := 55) hx hb dX3_init_77 (by decide) ?_
  refine lv_iload_n hx hb dX3_init_55 rfl (lv_at hl 0 rfl) ?_
  refine lv_bipush (v := 6) hx hb dX3_init_56 (by decide) ?_
  refine lv_icmp_ge (tgt := 80) hx hb dX3_init_58 (by decide) (fun z => absurd z (by decide)) (fun _ => ?_)
  refine lv_aload_n hx hb dX3_init_61 rfl (lv_at hl 1 rfl) ?_
  refine va_get (D := D) (ci := 3) (v := .ref q1) (C := RX3) (T := TX3) (N := 7) hx hb hts hiRX3 hown hK hP 0 rfl rfl 0 (by decide) hf11 (fun _ h9 => h9) rfl dX3_init_62 ?_
  refine lv_iload_n hx hb dX3_init_65 rfl (lv_at hl 0 rfl) ?_
  refine va_new (ci := 0) (fs := [.int 0, .null, .null, .null]) (C := RX0) (T := TX0) (N := 4) hx hb hts hiRX0 tyX0 tyX0_ok hown (hts (.classLink RX3 9 RX0) (by decide +kernel)) (hts (.instantiable RX0 4) (by decide +kernel)) (hts (.initialized RX0) (by decide +kernel)) hK hP hD hS hA rfl (fun j hj => by rcases (show j = 0 ∨ j = 1 ∨ j = 2 ∨ j = 3 by omega) with rfl | rfl | rfl | rfl <;> rfl) (Nat.le_of_ble_eq_true rfl) (Nat.le_of_ble_eq_true rfl) dX3_init_66 (fun q11 H hP hD hS => ?_)
  have hP : va_P D vwCl ((h0, .inr (3, [.ref q1, .int 0, .int 0, .int 0, .int 0, .ref (a3 0), .ref q4])) :: (q1, .inl (k 3, 6, .inr (.inr (.inr (.inr (va_up (va_up (va_up (fun _ => none) (0 : Int32).toNatClampNeg (some (a6 0))) (1 : Int32).toNatClampNeg (some (a8 0))) (2 : Int32).toNatClampNeg (some (a10 0)))))))) :: cellsW k a3 C0 ++ ((q4, .inl (k 0, 256, .inl (fun _ => 0))) :: cellsW k a6 C0 ++ (cellsW k a8 C0 ++ (cellsW k a10 C0 ++ ([(q11, .inr (0, [.int 0, .null, .null, .null]))]))))) H := hP
  have hD : va_D A ((h0, .inr (3, [.ref q1, .int 0, .int 0, .int 0, .int 0, .ref (a3 0), .ref q4])) :: (q1, .inl (k 3, 6, .inr (.inr (.inr (.inr (va_up (va_up (va_up (fun _ => none) (0 : Int32).toNatClampNeg (some (a6 0))) (1 : Int32).toNatClampNeg (some (a8 0))) (2 : Int32).toNatClampNeg (some (a10 0)))))))) :: cellsW k a3 C0 ++ ((q4, .inl (k 0, 256, .inl (fun _ => 0))) :: cellsW k a6 C0 ++ (cellsW k a8 C0 ++ (cellsW k a10 C0 ++ ([(q11, .inr (0, [.int 0, .null, .null, .null]))]))))) := hD
  refine lv_dup hx hb dX3_init_69 rfl ?_
  refine cI (rest := [.ref q11, .int 3, .ref q1]) (wr := (h0, .inr (3, [.ref q1, .int 0, .int 0, .int 0, .int 0, .ref (a3 0), .ref q4])) :: (q1, .inl (k 3, 6, .inr (.inr (.inr (.inr (va_up (va_up (va_up (fun _ => none) (0 : Int32).toNatClampNeg (some (a6 0))) (1 : Int32).toNatClampNeg (some (a8 0))) (2 : Int32).toNatClampNeg (some (a10 0)))))))) :: cellsW k a3 C0 ++ ((q4, .inl (k 0, 256, .inl (fun _ => 0))) :: cellsW k a6 C0 ++ (cellsW k a8 C0 ++ (cellsW k a10 C0)))) hx hb hml hown hts hK hN hA1 hA2 hl.1 hP hD hS hA [19] [0, 1, 2, 3, 4, 5, 6, 7, 8, 9, 10, 11, 12, 13, 14, 15, 16, 17, 18] rfl rfl (by decide) (by decide) (c_X0_init l D k q11 H.size C0 hC0) (cwI 0 hts ggX3_init_X0_init rfl rfl rfl (hts (.initialized RX0) (by decide +kernel)) (hts (.methodLink RX3 30 yX0_init) (by decide +kernel)) (hts (.instanceMethod yX0_init) (by decide +kernel)) rfl (by decide +kernel) ⟨Nat.le_of_ble_eq_true rfl, Nat.le_of_ble_eq_true rfl⟩) (Nat.le_of_ble_eq_true rfl) dX3_init_70 ⟨Nat.le_of_ble_eq_true rfl, Nat.le_of_ble_eq_true rfl⟩ (fun a12 H locs e9 hPn hDn hS => ?_)
  subst e9
  have hP := hPn
  have hD := hDn
  have hP : va_P D vwCl ((h0, .inr (3, [.ref q1, .int 0, .int 0, .int 0, .int 0, .ref (a3 0), .ref q4])) :: (q1, .inl (k 3, 6, .inr (.inr (.inr (.inr (va_up (va_up (va_up (fun _ => none) (0 : Int32).toNatClampNeg (some (a6 0))) (1 : Int32).toNatClampNeg (some (a8 0))) (2 : Int32).toNatClampNeg (some (a10 0)))))))) :: cellsW k a3 C0 ++ ((q4, .inl (k 0, 256, .inl (fun _ => 0))) :: cellsW k a6 C0 ++ (cellsW k a8 C0 ++ (cellsW k a10 C0 ++ (cellsW k a12 C0))))) H := hP
  have hD : va_D A ((h0, .inr (3, [.ref q1, .int 0, .int 0, .int 0, .int 0, .ref (a3 0), .ref q4])) :: (q1, .inl (k 3, 6, .inr (.inr (.inr (.inr (va_up (va_up (va_up (fun _ => none) (0 : Int32).toNatClampNeg (some (a6 0))) (1 : Int32).toNatClampNeg (some (a8 0))) (2 : Int32).toNatClampNeg (some (a10 0)))))))) :: cellsW k a3 C0 ++ ((q4, .inl (k 0, 256, .inl (fun _ => 0))) :: cellsW k a6 C0 ++ (cellsW k a8 C0 ++ (cellsW k a10 C0 ++ (cellsW k a12 C0))))) := hD
  refine va_astq (D := D) (r := (RX0, TX0, 4)) (v := a12 0) hx hb hK hP hD hS 1 3 19 0 rfl rfl rfl rfl (i := 3) (by unfold vp_in; decide) dX3_init_73 (fun H locs hP hD hS => ?_)
  have hP : va_P D vwCl ((h0, .inr (3, [.ref q1, .int 0, .int 0, .int 0, .int 0, .ref (a3 0), .ref q4])) :: (q1, .inl (k 3, 6, .inr (.inr (.inr (.inr (va_up (va_up (va_up (va_up (fun _ => none) (0 : Int32).toNatClampNeg (some (a6 0))) (1 : Int32).toNatClampNeg (some (a8 0))) (2 : Int32).toNatClampNeg (some (a10 0))) (3 : Int32).toNatClampNeg (some (a12 0)))))))) :: cellsW k a3 C0 ++ ((q4, .inl (k 0, 256, .inl (fun _ => 0))) :: cellsW k a6 C0 ++ (cellsW k a8 C0 ++ (cellsW k a10 C0 ++ (cellsW k a12 C0))))) H := hP
  have hD : va_D A ((h0, .inr (3, [.ref q1, .int 0, .int 0, .int 0, .int 0, .ref (a3 0), .ref q4])) :: (q1, .inl (k 3, 6, .inr (.inr (.inr (.inr (va_up (va_up (va_up (va_up (fun _ => none) (0 : Int32).toNatClampNeg (some (a6 0))) (1 : Int32).toNatClampNeg (some (a8 0))) (2 : Int32).toNatClampNeg (some (a10 0))) (3 : Int32).toNatClampNeg (some (a12 0)))))))) :: cellsW k a3 C0 ++ ((q4, .inl (k 0, 256, .inl (fun _ => 0))) :: cellsW k a6 C0 ++ (cellsW k a8 C0 ++ (cellsW k a10 C0 ++ (cellsW k a12 C0))))) := hD
  refine lv_iinc (v := 4) (lv' := [(1, .int 4), (0, .ref h0)]) hx hb dX3_init_74 hl (k := 0) rfl (by decide) (by decide) rfl (fun ls hl => ?_)
  refine lv_goto (tgt := 55) hx hb dX3_init_77 (by decide) ?_
  refine lv_iload_n hx hb dX3_init_55 rfl (lv_at hl 0 rfl) ?_
  refine lv_bipush (v := 6) hx hb dX3_init_56 (by decide) ?_
  refine lv_icmp_ge (tgt := 80) hx hb dX3_init_58 (by decide) (fun z => absurd z (by decide)) (fun _ => ?_)
  refine lv_aload_n hx hb dX3_init_61 rfl (lv_at hl 1 rfl) ?_
  refine va_get (D := D) (ci := 3) (v := .ref q1) (C := RX3) (T := TX3) (N := 7) hx hb hts hiRX3 hown hK hP 0 rfl rfl 0 (by decide) hf11 (fun _ h9 => h9) rfl dX3_init_62 ?_
  refine lv_iload_n hx hb dX3_init_65 rfl (lv_at hl 0 rfl) ?_
  refine va_new (ci := 0) (fs := [.int 0, .null, .null, .null]) (C := RX0) (T := TX0) (N := 4) hx hb hts hiRX0 tyX0 tyX0_ok hown (hts (.classLink RX3 9 RX0) (by decide +kernel)) (hts (.instantiable RX0 4) (by decide +kernel)) (hts (.initialized RX0) (by decide +kernel)) hK hP hD hS hA rfl (fun j hj => by rcases (show j = 0 ∨ j = 1 ∨ j = 2 ∨ j = 3 by omega) with rfl | rfl | rfl | rfl <;> rfl) (Nat.le_of_ble_eq_true rfl) (Nat.le_of_ble_eq_true rfl) dX3_init_66 (fun q13 H hP hD hS => ?_)
  have hP : va_P D vwCl ((h0, .inr (3, [.ref q1, .int 0, .int 0, .int 0, .int 0, .ref (a3 0), .ref q4])) :: (q1, .inl (k 3, 6, .inr (.inr (.inr (.inr (va_up (va_up (va_up (va_up (fun _ => none) (0 : Int32).toNatClampNeg (some (a6 0))) (1 : Int32).toNatClampNeg (some (a8 0))) (2 : Int32).toNatClampNeg (some (a10 0))) (3 : Int32).toNatClampNeg (some (a12 0)))))))) :: cellsW k a3 C0 ++ ((q4, .inl (k 0, 256, .inl (fun _ => 0))) :: cellsW k a6 C0 ++ (cellsW k a8 C0 ++ (cellsW k a10 C0 ++ (cellsW k a12 C0 ++ ([(q13, .inr (0, [.int 0, .null, .null, .null]))])))))) H := hP
  have hD : va_D A ((h0, .inr (3, [.ref q1, .int 0, .int 0, .int 0, .int 0, .ref (a3 0), .ref q4])) :: (q1, .inl (k 3, 6, .inr (.inr (.inr (.inr (va_up (va_up (va_up (va_up (fun _ => none) (0 : Int32).toNatClampNeg (some (a6 0))) (1 : Int32).toNatClampNeg (some (a8 0))) (2 : Int32).toNatClampNeg (some (a10 0))) (3 : Int32).toNatClampNeg (some (a12 0)))))))) :: cellsW k a3 C0 ++ ((q4, .inl (k 0, 256, .inl (fun _ => 0))) :: cellsW k a6 C0 ++ (cellsW k a8 C0 ++ (cellsW k a10 C0 ++ (cellsW k a12 C0 ++ ([(q13, .inr (0, [.int 0, .null, .null, .null]))])))))) := hD
  refine lv_dup hx hb dX3_init_69 rfl ?_
  refine cI (rest := [.ref q13, .int 4, .ref q1]) (wr := (h0, .inr (3, [.ref q1, .int 0, .int 0, .int 0, .int 0, .ref (a3 0), .ref q4])) :: (q1, .inl (k 3, 6, .inr (.inr (.inr (.inr (va_up (va_up (va_up (va_up (fun _ => none) (0 : Int32).toNatClampNeg (some (a6 0))) (1 : Int32).toNatClampNeg (some (a8 0))) (2 : Int32).toNatClampNeg (some (a10 0))) (3 : Int32).toNatClampNeg (some (a12 0)))))))) :: cellsW k a3 C0 ++ ((q4, .inl (k 0, 256, .inl (fun _ => 0))) :: cellsW k a6 C0 ++ (cellsW k a8 C0 ++ (cellsW k a10 C0 ++ (cellsW k a12 C0))))) hx hb hml hown hts hK hN hA1 hA2 hl.1 hP hD hS hA [23] [0, 1, 2, 3, 4, 5, 6, 7, 8, 9, 10, 11, 12, 13, 14, 15, 16, 17, 18, 19, 20, 21, 22] rfl rfl (by decide) (by decide) (c_X0_init l D k q13 H.size C0 hC0) (cwI 0 hts ggX3_init_X0_init rfl rfl rfl (hts (.initialized RX0) (by decide +kernel)) (hts (.methodLink RX3 30 yX0_init) (by decide +kernel)) (hts (.instanceMethod yX0_init) (by decide +kernel)) rfl (by decide +kernel) ⟨Nat.le_of_ble_eq_true rfl, Nat.le_of_ble_eq_true rfl⟩) (Nat.le_of_ble_eq_true rfl) dX3_init_70 ⟨Nat.le_of_ble_eq_true rfl, Nat.le_of_ble_eq_true rfl⟩ (fun a14 H locs e9 hPn hDn hS => ?_)
  subst e9
  have hP := hPn
  have hD := hDn
  have hP : va_P D vwCl ((h0, .inr (3, [.ref q1, .int 0, .int 0, .int 0, .int 0, .ref (a3 0), .ref q4])) :: (q1, .inl (k 3, 6, .inr (.inr (.inr (.inr (va_up (va_up (va_up (va_up (fun _ => none) (0 : Int32).toNatClampNeg (some (a6 0))) (1 : Int32).toNatClampNeg (some (a8 0))) (2 : Int32).toNatClampNeg (some (a10 0))) (3 : Int32).toNatClampNeg (some (a12 0)))))))) :: cellsW k a3 C0 ++ ((q4, .inl (k 0, 256, .inl (fun _ => 0))) :: cellsW k a6 C0 ++ (cellsW k a8 C0 ++ (cellsW k a10 C0 ++ (cellsW k a12 C0 ++ (cellsW k a14 C0)))))) H := hP
  have hD : va_D A ((h0, .inr (3, [.ref q1, .int 0, .int 0, .int 0, .int 0, .ref (a3 0), .ref q4])) :: (q1, .inl (k 3, 6, .inr (.inr (.inr (.inr (va_up (va_up (va_up (va_up (fun _ => none) (0 : Int32).toNatClampNeg (some (a6 0))) (1 : Int32).toNatClampNeg (some (a8 0))) (2 : Int32).toNatClampNeg (some (a10 0))) (3 : Int32).toNatClampNeg (some (a12 0)))))))) :: cellsW k a3 C0 ++ ((q4, .inl (k 0, 256, .inl (fun _ => 0))) :: cellsW k a6 C0 ++ (cellsW k a8 C0 ++ (cellsW k a10 C0 ++ (cellsW k a12 C0 ++ (cellsW k a14 C0)))))) := hD
  refine va_astq (D := D) (r := (RX0, TX0, 4)) (v := a14 0) hx hb hK hP hD hS 1 3 23 0 rfl rfl rfl rfl (i := 4) (by unfold vp_in; decide) dX3_init_73 (fun H locs hP hD hS => ?_)
  have hP : va_P D vwCl ((h0, .inr (3, [.ref q1, .int 0, .int 0, .int 0, .int 0, .ref (a3 0), .ref q4])) :: (q1, .inl (k 3, 6, .inr (.inr (.inr (.inr (va_up (va_up (va_up (va_up (va_up (fun _ => none) (0 : Int32).toNatClampNeg (some (a6 0))) (1 : Int32).toNatClampNeg (some (a8 0))) (2 : Int32).toNatClampNeg (some (a10 0))) (3 : Int32).toNatClampNeg (some (a12 0))) (4 : Int32).toNatClampNeg (some (a14 0)))))))) :: cellsW k a3 C0 ++ ((q4, .inl (k 0, 256, .inl (fun _ => 0))) :: cellsW k a6 C0 ++ (cellsW k a8 C0 ++ (cellsW k a10 C0 ++ (cellsW k a12 C0 ++ (cellsW k a14 C0)))))) H := hP
  have hD : va_D A ((h0, .inr (3, [.ref q1, .int 0, .int 0, .int 0, .int 0, .ref (a3 0), .ref q4])) :: (q1, .inl (k 3, 6, .inr (.inr (.inr (.inr (va_up (va_up (va_up (va_up (va_up (fun _ => none) (0 : Int32).toNatClampNeg (some (a6 0))) (1 : Int32).toNatClampNeg (some (a8 0))) (2 : Int32).toNatClampNeg (some (a10 0))) (3 : Int32).toNatClampNeg (some (a12 0))) (4 : Int32).toNatClampNeg (some (a14 0)))))))) :: cellsW k a3 C0 ++ ((q4, .inl (k 0, 256, .inl (fun _ => 0))) :: cellsW k a6 C0 ++ (cellsW k a8 C0 ++ (cellsW k a10 C0 ++ (cellsW k a12 C0 ++ (cellsW k a14 C0)))))) := hD
  refine lv_iinc (v := 5) (lv' := [(1, .int 5), (0, .ref h0)]) hx hb dX3_init_74 hl (k := 0) rfl (by decide) (by decide) rfl (fun ls hl => ?_)
  refine lv_goto (tgt := 55) hx hb dX3_init_77 (by decide) ?_
  refine lv_iload_n hx hb dX3_init_55 rfl (lv_at hl 0 rfl) ?_
  refine lv_bipush (v := 6) hx hb dX3_init_56 (by decide) ?_
  refine lv_icmp_ge (tgt := 80) hx hb dX3_init_58 (by decide) (fun z => absurd z (by decide)) (fun _ => ?_)
  refine lv_aload_n hx hb dX3_init_61 rfl (lv_at hl 1 rfl) ?_
  refine va_get (D := D) (ci := 3) (v := .ref q1) (C := RX3) (T := TX3) (N := 7) hx hb hts hiRX3 hown hK hP 0 rfl rfl 0 (by decide) hf11 (fun _ h9 => h9) rfl dX3_init_62 ?_
  refine lv_iload_n hx hb dX3_init_65 rfl (lv_at hl 0 rfl) ?_
  refine va_new (ci := 0) (fs := [.int 0, .null, .null, .null]) (C := RX0) (T := TX0) (N := 4) hx hb hts hiRX0 tyX0 tyX0_ok hown (hts (.classLink RX3 9 RX0) (by decide +kernel)) (hts (.instantiable RX0 4) (by decide +kernel)) (hts (.initialized RX0) (by decide +kernel)) hK hP hD hS hA rfl (fun j hj => by rcases (show j = 0 ∨ j = 1 ∨ j = 2 ∨ j = 3 by omega) with rfl | rfl | rfl | rfl <;> rfl) (Nat.le_of_ble_eq_true rfl) (Nat.le_of_ble_eq_true rfl) dX3_init_66 (fun q15 H hP hD hS => ?_)
  have hP : va_P D vwCl ((h0, .inr (3, [.ref q1, .int 0, .int 0, .int 0, .int 0, .ref (a3 0), .ref q4])) :: (q1, .inl (k 3, 6, .inr (.inr (.inr (.inr (va_up (va_up (va_up (va_up (va_up (fun _ => none) (0 : Int32).toNatClampNeg (some (a6 0))) (1 : Int32).toNatClampNeg (some (a8 0))) (2 : Int32).toNatClampNeg (some (a10 0))) (3 : Int32).toNatClampNeg (some (a12 0))) (4 : Int32).toNatClampNeg (some (a14 0)))))))) :: cellsW k a3 C0 ++ ((q4, .inl (k 0, 256, .inl (fun _ => 0))) :: cellsW k a6 C0 ++ (cellsW k a8 C0 ++ (cellsW k a10 C0 ++ (cellsW k a12 C0 ++ (cellsW k a14 C0 ++ ([(q15, .inr (0, [.int 0, .null, .null, .null]))]))))))) H := hP
  have hD : va_D A ((h0, .inr (3, [.ref q1, .int 0, .int 0, .int 0, .int 0, .ref (a3 0), .ref q4])) :: (q1, .inl (k 3, 6, .inr (.inr (.inr (.inr (va_up (va_up (va_up (va_up (va_up (fun _ => none) (0 : Int32).toNatClampNeg (some (a6 0))) (1 : Int32).toNatClampNeg (some (a8 0))) (2 : Int32).toNatClampNeg (some (a10 0))) (3 : Int32).toNatClampNeg (some (a12 0))) (4 : Int32).toNatClampNeg (some (a14 0)))))))) :: cellsW k a3 C0 ++ ((q4, .inl (k 0, 256, .inl (fun _ => 0))) :: cellsW k a6 C0 ++ (cellsW k a8 C0 ++ (cellsW k a10 C0 ++ (cellsW k a12 C0 ++ (cellsW k a14 C0 ++ ([(q15, .inr (0, [.int 0, .null, .null, .null]))]))))))) := hD
  refine lv_dup hx hb dX3_init_69 rfl ?_
  refine cI (rest := [.ref q15, .int 5, .ref q1]) (wr := (h0, .inr (3, [.ref q1, .int 0, .int 0, .int 0, .int 0, .ref (a3 0), .ref q4])) :: (q1, .inl (k 3, 6, .inr (.inr (.inr (.inr (va_up (va_up (va_up (va_up (va_up (fun _ => none) (0 : Int32).toNatClampNeg (some (a6 0))) (1 : Int32).toNatClampNeg (some (a8 0))) (2 : Int32).toNatClampNeg (some (a10 0))) (3 : Int32).toNatClampNeg (some (a12 0))) (4 : Int32).toNatClampNeg (some (a14 0)))))))) :: cellsW k a3 C0 ++ ((q4, .inl (k 0, 256, .inl (fun _ => 0))) :: cellsW k a6 C0 ++ (cellsW k a8 C0 ++ (cellsW k a10 C0 ++ (cellsW k a12 C0 ++ (cellsW k a14 C0)))))) hx hb hml hown hts hK hN hA1 hA2 hl.1 hP hD hS hA [27] [0, 1, 2, 3, 4, 5, 6, 7, 8, 9, 10, 11, 12, 13, 14, 15, 16, 17, 18, 19, 20, 21, 22, 23, 24, 25, 26] rfl rfl (by decide) (by decide) (c_X0_init l D k q15 H.size C0 hC0) (cwI 0 hts ggX3_init_X0_init rfl rfl rfl (hts (.initialized RX0) (by decide +kernel)) (hts (.methodLink RX3 30 yX0_init) (by decide +kernel)) (hts (.instanceMethod yX0_init) (by decide +kernel)) rfl (by decide +kernel) ⟨Nat.le_of_ble_eq_true rfl, Nat.le_of_ble_eq_true rfl⟩) (Nat.le_of_ble_eq_true rfl) dX3_init_70 ⟨Nat.le_of_ble_eq_true rfl, Nat.le_of_ble_eq_true rfl⟩ (fun a16 H locs e9 hPn hDn hS => ?_)
  subst e9
  have hP := hPn
  have hD := hDn
  have hP : va_P D vwCl ((h0, .inr (3, [.ref q1, .int 0, .int 0, .int 0, .int 0, .ref (a3 0), .ref q4])) :: (q1, .inl (k 3, 6, .inr (.inr (.inr (.inr (va_up (va_up (va_up (va_up (va_up (fun _ => none) (0 : Int32).toNatClampNeg (some (a6 0))) (1 : Int32).toNatClampNeg (some (a8 0))) (2 : Int32).toNatClampNeg (some (a10 0))) (3 : Int32).toNatClampNeg (some (a12 0))) (4 : Int32).toNatClampNeg (some (a14 0)))))))) :: cellsW k a3 C0 ++ ((q4, .inl (k 0, 256, .inl (fun _ => 0))) :: cellsW k a6 C0 ++ (cellsW k a8 C0 ++ (cellsW k a10 C0 ++ (cellsW k a12 C0 ++ (cellsW k a14 C0 ++ (cellsW k a16 C0))))))) H := hP
  have hD : va_D A ((h0, .inr (3, [.ref q1, .int 0, .int 0, .int 0, .int 0, .ref (a3 0), .ref q4])) :: (q1, .inl (k 3, 6, .inr (.inr (.inr (.inr (va_up (va_up (va_up (va_up (va_up (fun _ => none) (0 : Int32).toNatClampNeg (some (a6 0))) (1 : Int32).toNatClampNeg (some (a8 0))) (2 : Int32).toNatClampNeg (some (a10 0))) (3 : Int32).toNatClampNeg (some (a12 0))) (4 : Int32).toNatClampNeg (some (a14 0)))))))) :: cellsW k a3 C0 ++ ((q4, .inl (k 0, 256, .inl (fun _ => 0))) :: cellsW k a6 C0 ++ (cellsW k a8 C0 ++ (cellsW k a10 C0 ++ (cellsW k a12 C0 ++ (cellsW k a14 C0 ++ (cellsW k a16 C0))))))) := hD
  refine va_astq (D := D) (r := (RX0, TX0, 4)) (v := a16 0) hx hb hK hP hD hS 1 3 27 0 rfl rfl rfl rfl (i := 5) (by unfold vp_in; decide) dX3_init_73 (fun H locs hP hD hS => ?_)
  have hP : va_P D vwCl ((h0, .inr (3, [.ref q1, .int 0, .int 0, .int 0, .int 0, .ref (a3 0), .ref q4])) :: (q1, .inl (k 3, 6, .inr (.inr (.inr (.inr (va_up (va_up (va_up (va_up (va_up (va_up (fun _ => none) (0 : Int32).toNatClampNeg (some (a6 0))) (1 : Int32).toNatClampNeg (some (a8 0))) (2 : Int32).toNatClampNeg (some (a10 0))) (3 : Int32).toNatClampNeg (some (a12 0))) (4 : Int32).toNatClampNeg (some (a14 0))) (5 : Int32).toNatClampNeg (some (a16 0)))))))) :: cellsW k a3 C0 ++ ((q4, .inl (k 0, 256, .inl (fun _ => 0))) :: cellsW k a6 C0 ++ (cellsW k a8 C0 ++ (cellsW k a10 C0 ++ (cellsW k a12 C0 ++ (cellsW k a14 C0 ++ (cellsW k a16 C0))))))) H := hP
  have hD : va_D A ((h0, .inr (3, [.ref q1, .int 0, .int 0, .int 0, .int 0, .ref (a3 0), .ref q4])) :: (q1, .inl (k 3, 6, .inr (.inr (.inr (.inr (va_up (va_up (va_up (va_up (va_up (va_up (fun _ => none) (0 : Int32).toNatClampNeg (some (a6 0))) (1 : Int32).toNatClampNeg (some (a8 0))) (2 : Int32).toNatClampNeg (some (a10 0))) (3 : Int32).toNatClampNeg (some (a12 0))) (4 : Int32).toNatClampNeg (some (a14 0))) (5 : Int32).toNatClampNeg (some (a16 0)))))))) :: cellsW k a3 C0 ++ ((q4, .inl (k 0, 256, .inl (fun _ => 0))) :: cellsW k a6 C0 ++ (cellsW k a8 C0 ++ (cellsW k a10 C0 ++ (cellsW k a12 C0 ++ (cellsW k a14 C0 ++ (cellsW k a16 C0))))))) := hD
  refine lv_iinc (v := 6) (lv' := [(1, .int 6), (0, .ref h0)]) hx hb dX3_init_74 hl (k := 0) rfl (by decide) (by decide) rfl (fun ls hl => ?_)
  refine lv_goto (tgt := 55) hx hb dX3_init_77 (by decide) ?_
  refine lv_iload_n hx hb dX3_init_55 rfl (lv_at hl 0 rfl) ?_
  refine lv_bipush (v := 6) hx hb dX3_init_56 (by decide) ?_
  refine lv_icmp_ge (tgt := 80) hx hb dX3_init_58 (by decide) (fun _ => ?_) (fun z => absurd (by decide) z)
  obtain ⟨a, ha⟩ : ∃ a : Nat → Nat, a = fun n => ([h0, q1, q4, a3 0, a3 1, a3 2, a3 3, a6 0, a6 1, a6 2, a6 3, a8 0, a8 1, a8 2, a8 3, a10 0, a10 1, a10 2, a10 3, a12 0, a12 1, a12 2, a12 3, a14 0, a14 1, a14 2, a14 3, a16 0, a16 1, a16 2, a16 3] : List Nat).getD n 0 := ⟨_, rfl⟩
  have ha0 : a 0 = h0 := by rw [ha]; rfl
  have hD := hD.set (p := 1) (e := .inl (k 3, 6, .inr (.inr (.inr (.inr (fun j => some (a (3 + 4 * (j + 1))))))))) rfl
  have hP := va_P.arrq 1 (fun j => some (a (3 + 4 * (j + 1)))) hP rfl (fun i hi => by rw [ha]; rcases (show i = 0 ∨ i = 1 ∨ i = 2 ∨ i = 3 ∨ i = 4 ∨ i = 5 by omega) with rfl | rfl | rfl | rfl | rfl | rfl <;> rfl)
  have hP : va_P D vwCl ((h0, .inr (3, [.ref q1, .int 0, .int 0, .int 0, .int 0, .ref (a3 0), .ref q4])) :: (q1, .inl (k 3, 6, .inr (.inr (.inr (.inr (fun j => some (a (3 + 4 * (j + 1))))))))) :: cellsW k a3 C0 ++ ((q4, .inl (k 0, 256, .inl (fun _ => 0))) :: cellsW k a6 C0 ++ (cellsW k a8 C0 ++ (cellsW k a10 C0 ++ (cellsW k a12 C0 ++ (cellsW k a14 C0 ++ (cellsW k a16 C0))))))) H := hP
  have hD : va_D A ((h0, .inr (3, [.ref q1, .int 0, .int 0, .int 0, .int 0, .ref (a3 0), .ref q4])) :: (q1, .inl (k 3, 6, .inr (.inr (.inr (.inr (fun j => some (a (3 + 4 * (j + 1))))))))) :: cellsW k a3 C0 ++ ((q4, .inl (k 0, 256, .inl (fun _ => 0))) :: cellsW k a6 C0 ++ (cellsW k a8 C0 ++ (cellsW k a10 C0 ++ (cellsW k a12 C0 ++ (cellsW k a14 C0 ++ (cellsW k a16 C0))))))) := hD
  have hP : va_P D vwCl (storeW k a ((fun j => j + 1), (0 : Int32), (0 : Int32), (0 : Int32), (0 : Int32), (fun _ => (0 : Int32)), (fun _ => C0))) H := by rw [ha] at hP ⊢; exact hP.sub [0, 1, 6, 2, 3, 4, 5, 7, 8, 9, 10, 11, 12, 13, 14, 15, 16, 17, 18, 19, 20, 21, 22, 23, 24, 25, 26, 27, 28, 29, 30] rfl
  have hD : va_D A (storeW k a ((fun j => j + 1), (0 : Int32), (0 : Int32), (0 : Int32), (0 : Int32), (fun _ => (0 : Int32)), (fun _ => C0))) := by rw [ha] at hD ⊢; exact hD.sub [0, 1, 6, 2, 3, 4, 5, 7, 8, 9, 10, 11, 12, 13, 14, 15, 16, 17, 18, 19, 20, 21, 22, 23, 24, 25, 26, 27, 28, 29, 30] (by decide) rfl
  exact hQ _ _ _ _ a dX3_init_80 ha0 hP hD hS

abbrev rm_X4_init : Room := { frames := 3, cells := 65, slots := 4783, locals := 54 }
set_option maxHeartbeats 4000000 in
set_option maxRecDepth 100000 in
theorem c_X4_init (l : Launch) (D : va_G) (k : Nat → ClassId) (h0 sz : Nat) (S0 : SceneV) (C0 : CellV) (hS0 : f_X1_init = some S0) (hC0 : f_X0_init = some C0) : Met l yX4_init wsX4_init rm_X4_init (va_Pc [.ref h0] (CB D k sz [(h0, .inr (4, [.null, .null, .int 0, .null, .null]))])) (QC D [(h0, .inr (4, [.null, .null, .int 0, .null, .null]))] sz h0 (fun a => rcW k a (S0, S0, S0, (0 : Int32), ((fun j => j + 1), (0 : Int32), (0 : Int32), (0 : Int32), (0 : Int32), (fun _ => (0 : Int32)), (fun _ => C0)), ((1000000000 : Int32), (0 : Int32), (0 : Int32), C0, (fun _ => (0 : Int32)), (fun _ => (0 : Int32)), (fun _ => (0 : Int32)), (fun _ => (0 : Int32)))))) 65 4783 (va_A [(h0, .inr (4, [.null, .null, .int 0, .null, .null]))] sz) := by
  refine met_C (by decide) rfl rfl (Nat.le_of_ble_eq_true rfl) ?_
  intro p e s m below meth c Q args ls A hx hb hml hown hts hin hP hK hN hA1 hA2 hD hA hl hQ
  have hown : s.vm.findClass RX4 = some m.cls := hown
  have hS : va_S A s.heap s.heap [] := va_S.rf
  have hiRX1 : ∀ w ∈ u_ws RX1 TX1 8, w ∈ wsX4_init := by decide +kernel
  have hiRX2 : ∀ w ∈ u_ws RX2 TX2 8, w ∈ wsX4_init := by decide +kernel
  have hiRX3 : ∀ w ∈ u_ws RX3 TX3 7, w ∈ wsX4_init := by decide +kernel
  have hiRX4 : ∀ w ∈ u_ws RX4 TX4 5, w ∈ wsX4_init := by decide +kernel
  have hf12 := hts (.fieldLink RX4 12 "RainCells" "scene" "LRainCells$Scene;") (by decide +kernel)
  have hf16 := hts (.fieldLink RX4 16 "RainCells" "images" "[LRainCells$Scene;") (by decide +kernel)
  have hf20 := hts (.fieldLink RX4 20 "RainCells" "imagesKept" "I") (by decide +kernel)
  have hf27 := hts (.fieldLink RX4 27 "RainCells" "store" "LRainCells$Store;") (by decide +kernel)
  have hf34 := hts (.fieldLink RX4 34 "RainCells" "search" "LRainCells$Search;") (by decide +kernel)
  refine lv_aload_n hx hb dX4_init_0 rfl (lv_at hl 0 rfl) ?_
  refine W.objInit hx hb hown (hts (.methodLink RX4 3 objectInit) (by decide +kernel)) (hts (.instanceMethod objectInit) (by decide +kernel)) (hts _ (List.mem_of_getElem? (i := 3) rfl)) rfl (by rw [hml]; exact hl.1) rfl dX4_init_1 (Nat.le_of_ble_eq_true rfl) (Nat.le_of_ble_eq_true rfl) ?_
  refine W.eq (g2 := F0 m 4 ls []) rfl ?_
  refine lv_aload_n hx hb dX4_init_4 rfl (lv_at hl 0 rfl) ?_
  refine va_new (ci := 1) (fs := [.null, .null, .int 0, .null, .null, .null, .null, .null]) (C := RX1) (T := TX1) (N := 8) hx hb hts hiRX1 tyX1 tyX1_ok hown (hts (.classLink RX4 9 RX1) (by decide +kernel)) (hts (.instantiable RX1 8) (by decide +kernel)) (hts (.initialized RX1) (by decide +kernel)) hK hP hD hS hA rfl (fun j hj => by rcases (show j = 0 ∨ j = 1 ∨ j = 2 ∨ j = 3 ∨ j = 4 ∨ j = 5 ∨ j = 6 ∨ j = 7 by omega) with rfl | rfl | rfl | rfl | rfl | rfl | rfl | rfl <;> rfl) (Nat.le_of_ble_eq_true rfl) (Nat.le_of_ble_eq_true rfl) dX4_init_5 (fun q1 H hP hD hS => ?_)
  have hP : va_P D vwCl ((h0, .inr (4, [.null, .null, .int 0, .null, .null])) :: [(q1, .inr (1, [.null, .null, .int 0, .null, .null, .null, .null, .null]))]) H := hP
  have hD : va_D A ((h0, .inr (4, [.null, .null, .int 0, .null, .null])) :: [(q1, .inr (1, [.null, .null, .int 0, .null, .null, .null, .null, .null]))]) := hD
  refine lv_dup hx hb dX4_init_8 rfl ?_
  refine cI (rest := [.ref q1, .ref h0]) (wr := [(h0, .inr (4, [.null, .null, .int 0, .null, .null]))]) hx hb hml hown hts hK hN hA1 hA2 hl.1 hP hD hS hA [1] [0] rfl rfl (by decide) (by decide) (c_X1_init l D k q1 H.size S0 hS0) (cwI 0 hts ggX4_init_X1_init rfl rfl rfl (hts (.initialized RX1) (by decide +kernel)) (hts (.methodLink RX4 11 yX1_init) (by decide +kernel)) (hts (.instanceMethod yX1_init) (by decide +kernel)) rfl (by decide +kernel) ⟨Nat.le_of_ble_eq_true rfl, Nat.le_of_ble_eq_true rfl⟩) (Nat.le_of_ble_eq_true rfl) dX4_init_9 ⟨Nat.le_of_ble_eq_true rfl, Nat.le_of_ble_eq_true rfl⟩ (fun a2 H locs e9 hPn hDn hS => ?_)
  subst e9
  have hP := hPn
  have hD := hDn
  have hP : va_P D vwCl ((h0, .inr (4, [.null, .null, .int 0, .null, .null])) :: sceneW k a2 S0) H := hP
  have hD : va_D A ((h0, .inr (4, [.null, .null, .int 0, .null, .null])) :: sceneW k a2 S0) := hD
  refine va_putF (D := D) (ci := 4) (v := .ref (a2 0)) (ty := (.object "RainCells$Scene")) (C := RX4) (T := TX4) (N := 5) hx hb hts hiRX4 tyX4 tyX4_ok nmX4 hown hK hP hD hS 0 rfl rfl 0 (by decide) hf12 (fun _ h9 => h9) rfl hin rfl (by decide +kernel) rfl rfl (Nat.le_of_ble_eq_true rfl) dX4_init_12 (fun H locs hP hD hS => ?_)
  have hP : va_P D vwCl ((h0, .inr (4, [.ref (a2 0), .null, .int 0, .null, .null])) :: sceneW k a2 S0) H := hP
  have hD : va_D A ((h0, .inr (4, [.ref (a2 0), .null, .int 0, .null, .null])) :: sceneW k a2 S0) := hD
  refine lv_aload_n hx hb dX4_init_15 rfl (lv_at hl 0 rfl) ?_
  refine lv_iconst (v := 2) hx hb dX4_init_16 (by decide) ?_
  refine va_newq (n := 2) (N' := 2) hx hb hown (hts (.classLink RX4 9 RX1) (by decide +kernel)) hA2 hK hP hD hS hA (by decide) (by decide) (by decide) (Nat.le_of_ble_eq_true rfl) (Nat.le_of_ble_eq_true rfl) dX4_init_17 (fun q3 cA H hK1 hP hD hS => ?_)
  obtain rfl := ra_scene hK hK1
  have hP : va_P D vwCl ((h0, .inr (4, [.ref (a2 0), .null, .int 0, .null, .null])) :: sceneW k a2 S0 ++ ([(q3, .inl (k 4, 2, .inr (.inr (.inr (.inr (fun _ => none))))))])) H := hP
  have hD : va_D A ((h0, .inr (4, [.ref (a2 0), .null, .int 0, .null, .null])) :: sceneW k a2 S0 ++ ([(q3, .inl (k 4, 2, .inr (.inr (.inr (.inr (fun _ => none))))))])) := hD
  refine va_putF (D := D) (ci := 4) (v := .ref q3) (ty := (.array (.object "RainCells$Scene"))) (C := RX4) (T := TX4) (N := 5) hx hb hts hiRX4 tyX4 tyX4_ok nmX4 hown hK hP hD hS 0 rfl rfl 1 (by decide) hf16 (fun _ h9 => h9) rfl hin rfl (by decide +kernel) rfl rfl (Nat.le_of_ble_eq_true rfl) dX4_init_20 (fun H locs hP hD hS => ?_)
  have hP : va_P D vwCl ((h0, .inr (4, [.ref (a2 0), .ref q3, .int 0, .null, .null])) :: sceneW k a2 S0 ++ ([(q3, .inl (k 4, 2, .inr (.inr (.inr (.inr (fun _ => none))))))])) H := hP
  have hD : va_D A ((h0, .inr (4, [.ref (a2 0), .ref q3, .int 0, .null, .null])) :: sceneW k a2 S0 ++ ([(q3, .inl (k 4, 2, .inr (.inr (.inr (.inr (fun _ => none))))))])) := hD
  refine lv_iconst (v := 0) hx hb dX4_init_23 (by decide) ?_
  refine lv_istore_n (lv' := [(1, .int 0), (0, .ref h0)]) hx hb dX4_init_24 rfl hl (by decide) rfl (fun ls hl => ?_)
  refine lv_iload_n hx hb dX4_init_25 rfl (lv_at hl 0 rfl) ?_
  refine lv_iconst (v := 2) hx hb dX4_init_26 (by decide) ?_
  refine lv_icmp_ge (tgt := 49) hx hb dX4_init_27 (by decide) (fun z => absurd z (by decide)) (fun _ => ?_)
  refine lv_aload_n hx hb dX4_init_30 rfl (lv_at hl 1 rfl) ?_
  refine va_get (D := D) (ci := 4) (v := .ref q3) (C := RX4) (T := TX4) (N := 5) hx hb hts hiRX4 hown hK hP 0 rfl rfl 1 (by decide) hf16 (fun _ h9 => h9) rfl dX4_init_31 ?_
  refine lv_iload_n hx hb dX4_init_34 rfl (lv_at hl 0 rfl) ?_
  refine va_new (ci := 1) (fs := [.null, .null, .int 0, .null, .null, .null, .null, .null]) (C := RX1) (T := TX1) (N := 8) hx hb hts hiRX1 tyX1 tyX1_ok hown (hts (.classLink RX4 9 RX1) (by decide +kernel)) (hts (.instantiable RX1 8) (by decide +kernel)) (hts (.initialized RX1) (by decide +kernel)) hK hP hD hS hA rfl (fun j hj => by rcases (show j = 0 ∨ j = 1 ∨ j = 2 ∨ j = 3 ∨ j = 4 ∨ j = 5 ∨ j = 6 ∨ j = 7 by omega) with rfl | rfl | rfl | rfl | rfl | rfl | rfl | rfl <;> rfl) (Nat.le_of_ble_eq_true rfl) (Nat.le_of_ble_eq_true rfl) dX4_init_35 (fun q4 H hP hD hS => ?_)
  have hP : va_P D vwCl ((h0, .inr (4, [.ref (a2 0), .ref q3, .int 0, .null, .null])) :: sceneW k a2 S0 ++ ((q3, .inl (k 4, 2, .inr (.inr (.inr (.inr (fun _ => none)))))) :: [(q4, .inr (1, [.null, .null, .int 0, .null, .null, .null, .null, .null]))])) H := hP
  have hD : va_D A ((h0, .inr (4, [.ref (a2 0), .ref q3, .int 0, .null, .null])) :: sceneW k a2 S0 ++ ((q3, .inl (k 4, 2, .inr (.inr (.inr (.inr (fun _ => none)))))) :: [(q4, .inr (1, [.null, .null, .int 0, .null, .null, .null, .null, .null]))])) := hD
  refine lv_dup hx hb dX4_init_38 rfl ?_
  refine cI (rest := [.ref q4, .int 0, .ref q3]) (wr := (h0, .inr (4, [.ref (a2 0), .ref q3, .int 0, .null, .null])) :: sceneW k a2 S0 ++ ([(q3, .inl (k 4, 2, .inr (.inr (.inr (.inr (fun _ => none))))))])) hx hb hml hown hts hK hN hA1 hA2 hl.1 hP hD hS hA [10] [0, 1, 2, 3, 4, 5, 6, 7, 8, 9] rfl rfl (by decide) (by decide) (c_X1_init l D k q4 H.size S0 hS0) (cwI 0 hts ggX4_init_X1_init rfl rfl rfl (hts (.initialized RX1) (by decide +kernel)) (hts (.methodLink RX4 11 yX1_init) (by decide +kernel)) (hts (.instanceMethod yX1_init) (by decide +kernel)) rfl (by decide +kernel) ⟨Nat.le_of_ble_eq_true rfl, Nat.le_of_ble_eq_true rfl⟩) (Nat.le_of_ble_eq_true rfl) dX4_init_39 ⟨Nat.le_of_ble_eq_true rfl, Nat.le_of_ble_eq_true rfl⟩ (fun a5 H locs e9 hPn hDn hS => ?_)
  subst e9
  have hP := hPn
  have hD := hDn
  have hP : va_P D vwCl ((h0, .inr (4, [.ref (a2 0), .ref q3, .int 0, .null, .null])) :: sceneW k a2 S0 ++ ((q3, .inl (k 4, 2, .inr (.inr (.inr (.inr (fun _ => none)))))) :: sceneW k a5 S0)) H := hP
  have hD : va_D A ((h0, .inr (4, [.ref (a2 0), .ref q3, .int 0, .null, .null])) :: sceneW k a2 S0 ++ ((q3, .inl (k 4, 2, .inr (.inr (.inr (.inr (fun _ => none)))))) :: sceneW k a5 S0)) := hD
  refine va_astq (D := D) (r := (RX1, TX1, 8)) (v := a5 0) hx hb hK hP hD hS 9 4 10 1 rfl rfl rfl rfl (i := 0) (by unfold vp_in; decide) dX4_init_42 (fun H locs hP hD hS => ?_)
  have hP : va_P D vwCl ((h0, .inr (4, [.ref (a2 0), .ref q3, .int 0, .null, .null])) :: sceneW k a2 S0 ++ ((q3, .inl (k 4, 2, .inr (.inr (.inr (.inr (va_up (fun _ => none) (0 : Int32).toNatClampNeg (some (a5 0)))))))) :: sceneW k a5 S0)) H := hP
  have hD : va_D A ((h0, .inr (4, [.ref (a2 0), .ref q3, .int 0, .null, .null])) :: sceneW k a2 S0 ++ ((q3, .inl (k 4, 2, .inr (.inr (.inr (.inr (va_up (fun _ => none) (0 : Int32).toNatClampNeg (some (a5 0)))))))) :: sceneW k a5 S0)) := hD
  refine lv_iinc (v := 1) (lv' := [(1, .int 1), (0, .ref h0)]) hx hb dX4_init_43 hl (k := 0) rfl (by decide) (by decide) rfl (fun ls hl => ?_)
  refine lv_goto (tgt := 25) hx hb dX4_init_46 (by decide) ?_
  refine lv_iload_n hx hb dX4_init_25 rfl (lv_at hl 0 rfl) ?_
  refine lv_iconst (v := 2) hx hb dX4_init_26 (by decide) ?_
  refine lv_icmp_ge (tgt := 49) hx hb dX4_init_27 (by decide) (fun z => absurd z (by decide)) (fun _ => ?_)
  refine lv_aload_n hx hb dX4_init_30 rfl (lv_at hl 1 rfl) ?_
  refine va_get (D := D) (ci := 4) (v := .ref q3) (C := RX4) (T := TX4) (N := 5) hx hb hts hiRX4 hown hK hP 0 rfl rfl 1 (by decide) hf16 (fun _ h9 => h9) rfl dX4_init_31 ?_
  refine lv_iload_n hx hb dX4_init_34 rfl (lv_at hl 0 rfl) ?_
  refine va_new (ci := 1) (fs := [.null, .null, .int 0, .null, .null, .null, .null, .null]) (C := RX1) (T := TX1) (N := 8) hx hb hts hiRX1 tyX1 tyX1_ok hown (hts (.classLink RX4 9 RX1) (by decide +kernel)) (hts (.instantiable RX1 8) (by decide +kernel)) (hts (.initialized RX1) (by decide +kernel)) hK hP hD hS hA rfl (fun j hj => by rcases (show j = 0 ∨ j = 1 ∨ j = 2 ∨ j = 3 ∨ j = 4 ∨ j = 5 ∨ j = 6 ∨ j = 7 by omega) with rfl | rfl | rfl | rfl | rfl | rfl | rfl | rfl <;> rfl) (Nat.le_of_ble_eq_true rfl) (Nat.le_of_ble_eq_true rfl) dX4_init_35 (fun q6 H hP hD hS => ?_)
  have hP : va_P D vwCl ((h0, .inr (4, [.ref (a2 0), .ref q3, .int 0, .null, .null])) :: sceneW k a2 S0 ++ ((q3, .inl (k 4, 2, .inr (.inr (.inr (.inr (va_up (fun _ => none) (0 : Int32).toNatClampNeg (some (a5 0)))))))) :: sceneW k a5 S0 ++ ([(q6, .inr (1, [.null, .null, .int 0, .null, .null, .null, .null, .null]))]))) H := hP
  have hD : va_D A ((h0, .inr (4, [.ref (a2 0), .ref q3, .int 0, .null, .null])) :: sceneW k a2 S0 ++ ((q3, .inl (k 4, 2, .inr (.inr (.inr (.inr (va_up (fun _ => none) (0 : Int32).toNatClampNeg (some (a5 0)))))))) :: sceneW k a5 S0 ++ ([(q6, .inr (1, [.null, .null, .int 0, .null, .null, .null, .null, .null]))]))) := hD
  refine lv_dup hx hb dX4_init_38 rfl ?_
  refine cI (rest := [.ref q6, .int 1, .ref q3]) (wr := (h0, .inr (4, [.ref (a2 0), .ref q3, .int 0, .null, .null])) :: sceneW k a2 S0 ++ ((q3, .inl (k 4, 2, .inr (.inr (.inr (.inr (va_up (fun _ => none) (0 : Int32).toNatClampNeg (some (a5 0)))))))) :: sceneW k a5 S0)) hx hb hml hown hts hK hN hA1 hA2 hl.1 hP hD hS hA [18] [0, 1, 2, 3, 4, 5, 6, 7, 8, 9, 10, 11, 12, 13, 14, 15, 16, 17] rfl rfl (by decide) (by decide) (c_X1_init l D k q6 H.size S0 hS0) (cwI 0 hts ggX4_init_X1_init rfl rfl rfl (hts (.initialized RX1) (by decide +kernel)) (hts (.methodLink RX4 11 yX1_init) (by decide +kernel)) (hts (.instanceMethod yX1_init) (by decide +kernel)) rfl (by decide +kernel) ⟨Nat.le_of_ble_eq_true rfl, Nat.le_of_ble_eq_true rfl⟩) (Nat.le_of_ble_eq_true rfl) dX4_init_39 ⟨Nat.le_of_ble_eq_true rfl, Nat.le_of_ble_eq_true rfl⟩ (fun a7 H locs e9 hPn hDn hS => ?_)
  subst e9
  have hP := hPn
  have hD := hDn
  have hP : va_P D vwCl ((h0, .inr (4, [.ref (a2 0), .ref q3, .int 0, .null, .null])) :: sceneW k a2 S0 ++ ((q3, .inl (k 4, 2, .inr (.inr (.inr (.inr (va_up (fun _ => none) (0 : Int32).toNatClampNeg (some (a5 0)))))))) :: sceneW k a5 S0 ++ (sceneW k a7 S0))) H := hP
  have hD : va_D A ((h0, .inr (4, [.ref (a2 0), .ref q3, .int 0, .null, .null])) :: sceneW k a2 S0 ++ ((q3, .inl (k 4, 2, .inr (.inr (.inr (.inr (va_up (fun _ => none) (0 : Int32).toNatClampNeg (some (a5 0)))))))) :: sceneW k a5 S0 ++ (sceneW k a7 S0))) := hD
  refine va_astq (D := D) (r := (RX1, TX1, 8)) (v := a7 0) hx hb hK hP hD hS 9 4 18 1 rfl rfl rfl rfl (i := 1) (by unfold vp_in; decide) dX4_init_42 (fun H locs hP hD hS => ?_)
  have hP : va_P D vwCl ((h0, .inr (4, [.ref (a2 0), .ref q3, .int 0, .null, .null])) :: sceneW k a2 S0 ++ ((q3, .inl (k 4, 2, .inr (.inr (.inr (.inr (va_up (va_up (fun _ => none) (0 : Int32).toNatClampNeg (some (a5 0))) (1 : Int32).toNatClampNeg (some (a7 0)))))))) :: sceneW k a5 S0 ++ (sceneW k a7 S0))) H := hP
  have hD : va_D A ((h0, .inr (4, [.ref (a2 0), .ref q3, .int 0, .null, .null])) :: sceneW k a2 S0 ++ ((q3, .inl (k 4, 2, .inr (.inr (.inr (.inr (va_up (va_up (fun _ => none) (0 : Int32).toNatClampNeg (some (a5 0))) (1 : Int32).toNatClampNeg (some (a7 0)))))))) :: sceneW k a5 S0 ++ (sceneW k a7 S0))) := hD
  refine lv_iinc (v := 2) (lv' := [(1, .int 2), (0, .ref h0)]) hx hb dX4_init_43 hl (k := 0) rfl (by decide) (by decide) rfl (fun ls hl => ?_)
  refine lv_goto (tgt := 25) hx hb dX4_init_46 (by decide) ?_
  refine lv_iload_n hx hb dX4_init_25 rfl (lv_at hl 0 rfl) ?_
  refine lv_iconst (v := 2) hx hb dX4_init_26 (by decide) ?_
  refine lv_icmp_ge (tgt := 49) hx hb dX4_init_27 (by decide) (fun _ => ?_) (fun z => absurd (by decide) z)
  refine lv_aload_n hx hb dX4_init_49 rfl (lv_at hl 1 rfl) ?_
  refine lv_iconst (v := 0) hx hb dX4_init_50 (by decide) ?_
  refine va_put (D := D) (ci := 4) (v := .int 0) (ty := .int) (C := RX4) (T := TX4) (N := 5) hx hb hts hiRX4 tyX4 tyX4_ok nmX4 hown hK hP hD hS 0 rfl rfl 2 (by decide) hf20 (fun _ h9 => h9) rfl (by decide +kernel) rfl rfl (Nat.le_of_ble_eq_true rfl) dX4_init_51 (fun H locs hP hD hS => ?_)
  have hP : va_P D vwCl ((h0, .inr (4, [.ref (a2 0), .ref q3, .int 0, .null, .null])) :: sceneW k a2 S0 ++ ((q3, .inl (k 4, 2, .inr (.inr (.inr (.inr (va_up (va_up (fun _ => none) (0 : Int32).toNatClampNeg (some (a5 0))) (1 : Int32).toNatClampNeg (some (a7 0)))))))) :: sceneW k a5 S0 ++ (sceneW k a7 S0))) H := hP
  have hD : va_D A ((h0, .inr (4, [.ref (a2 0), .ref q3, .int 0, .null, .null])) :: sceneW k a2 S0 ++ ((q3, .inl (k 4, 2, .inr (.inr (.inr (.inr (va_up (va_up (fun _ => none) (0 : Int32).toNatClampNeg (some (a5 0))) (1 : Int32).toNatClampNeg (some (a7 0)))))))) :: sceneW k a5 S0 ++ (sceneW k a7 S0))) := hD
  refine lv_aload_n hx hb dX4_init_54 rfl (lv_at hl 1 rfl) ?_
  refine va_new (ci := 3) (fs := [.null, .int 0, .int 0, .int 0, .int 0, .null, .null]) (C := RX3) (T := TX3) (N := 7) hx hb hts hiRX3 tyX3 tyX3_ok hown (hts (.classLink RX4 24 RX3) (by decide +kernel)) (hts (.instantiable RX3 7) (by decide +kernel)) (hts (.initialized RX3) (by decide +kernel)) hK hP hD hS hA rfl (fun j hj => by rcases (show j = 0 ∨ j = 1 ∨ j = 2 ∨ j = 3 ∨ j = 4 ∨ j = 5 ∨ j = 6 by omega) with rfl | rfl | rfl | rfl | rfl | rfl | rfl <;> rfl) (Nat.le_of_ble_eq_true rfl) (Nat.le_of_ble_eq_true rfl) dX4_init_55 (fun q8 H hP hD hS => ?_)
  have hP : va_P D vwCl ((h0, .inr (4, [.ref (a2 0), .ref q3, .int 0, .null, .null])) :: sceneW k a2 S0 ++ ((q3, .inl (k 4, 2, .inr (.inr (.inr (.inr (va_up (va_up (fun _ => none) (0 : Int32).toNatClampNeg (some (a5 0))) (1 : Int32).toNatClampNeg (some (a7 0)))))))) :: sceneW k a5 S0 ++ (sceneW k a7 S0 ++ ([(q8, .inr (3, [.null, .int 0, .int 0, .int 0, .int 0, .null, .null]))])))) H := hP
  have hD : va_D A ((h0, .inr (4, [.ref (a2 0), .ref q3, .int 0, .null, .null])) :: sceneW k a2 S0 ++ ((q3, .inl (k 4, 2, .inr (.inr (.inr (.inr (va_up (va_up (fun _ => none) (0 : Int32).toNatClampNeg (some (a5 0))) (1 : Int32).toNatClampNeg (some (a7 0)))))))) :: sceneW k a5 S0 ++ (sceneW k a7 S0 ++ ([(q8, .inr (3, [.null, .int 0, .int 0, .int 0, .int 0, .null, .null]))])))) := hD
  refine lv_dup hx hb dX4_init_58 rfl ?_
  refine cI (rest := [.ref q8, .ref h0]) (wr := (h0, .inr (4, [.ref (a2 0), .ref q3, .int 0, .null, .null])) :: sceneW k a2 S0 ++ ((q3, .inl (k 4, 2, .inr (.inr (.inr (.inr (va_up (va_up (fun _ => none) (0 : Int32).toNatClampNeg (some (a5 0))) (1 : Int32).toNatClampNeg (some (a7 0)))))))) :: sceneW k a5 S0 ++ (sceneW k a7 S0))) hx hb hml hown hts hK hN hA1 hA2 hl.1 hP hD hS hA [26] [0, 1, 2, 3, 4, 5, 6, 7, 8, 9, 10, 11, 12, 13, 14, 15, 16, 17, 18, 19, 20, 21, 22, 23, 24, 25] rfl rfl (by decide) (by decide) (c_X3_init l D k q8 H.size C0 hC0) (cwI 0 hts ggX4_init_X3_init rfl rfl rfl (hts (.initialized RX3) (by decide +kernel)) (hts (.methodLink RX4 26 yX3_init) (by decide +kernel)) (hts (.instanceMethod yX3_init) (by decide +kernel)) rfl (by decide +kernel) ⟨Nat.le_of_ble_eq_true rfl, Nat.le_of_ble_eq_true rfl⟩) (Nat.le_of_ble_eq_true rfl) dX4_init_59 ⟨Nat.le_of_ble_eq_true rfl, Nat.le_of_ble_eq_true rfl⟩ (fun a9 H locs e9 hPn hDn hS => ?_)
  subst e9
  have hP := hPn
  have hD := hDn
  have hP : va_P D vwCl ((h0, .inr (4, [.ref (a2 0), .ref q3, .int 0, .null, .null])) :: sceneW k a2 S0 ++ ((q3, .inl (k 4, 2, .inr (.inr (.inr (.inr (va_up (va_up (fun _ => none) (0 : Int32).toNatClampNeg (some (a5 0))) (1 : Int32).toNatClampNeg (some (a7 0)))))))) :: sceneW k a5 S0 ++ (sceneW k a7 S0 ++ (storeW k a9 ((fun j => j + 1), (0 : Int32), (0 : Int32), (0 : Int32), (0 : Int32), (fun _ => (0 : Int32)), (fun _ => C0)))))) H := hP
  have hD : va_D A ((h0, .inr (4, [.ref (a2 0), .ref q3, .int 0, .null, .null])) :: sceneW k a2 S0 ++ ((q3, .inl (k 4, 2, .inr (.inr (.inr (.inr (va_up (va_up (fun _ => none) (0 : Int32).toNatClampNeg (some (a5 0))) (1 : Int32).toNatClampNeg (some (a7 0)))))))) :: sceneW k a5 S0 ++ (sceneW k a7 S0 ++ (storeW k a9 ((fun j => j + 1), (0 : Int32), (0 : Int32), (0 : Int32), (0 : Int32), (fun _ => (0 : Int32)), (fun _ => C0)))))) := hD
  refine va_putF (D := D) (ci := 4) (v := .ref (a9 0)) (ty := (.object "RainCells$Store")) (C := RX4) (T := TX4) (N := 5) hx hb hts hiRX4 tyX4 tyX4_ok nmX4 hown hK hP hD hS 0 rfl rfl 3 (by decide) hf27 (fun _ h9 => h9) rfl hin rfl (by decide +kernel) rfl rfl (Nat.le_of_ble_eq_true rfl) dX4_init_62 (fun H locs hP hD hS => ?_)
  have hP : va_P D vwCl ((h0, .inr (4, [.ref (a2 0), .ref q3, .int 0, .ref (a9 0), .null])) :: sceneW k a2 S0 ++ ((q3, .inl (k 4, 2, .inr (.inr (.inr (.inr (va_up (va_up (fun _ => none) (0 : Int32).toNatClampNeg (some (a5 0))) (1 : Int32).toNatClampNeg (some (a7 0)))))))) :: sceneW k a5 S0 ++ (sceneW k a7 S0 ++ (storeW k a9 ((fun j => j + 1), (0 : Int32), (0 : Int32), (0 : Int32), (0 : Int32), (fun _ => (0 : Int32)), (fun _ => C0)))))) H := hP
  have hD : va_D A ((h0, .inr (4, [.ref (a2 0), .ref q3, .int 0, .ref (a9 0), .null])) :: sceneW k a2 S0 ++ ((q3, .inl (k 4, 2, .inr (.inr (.inr (.inr (va_up (va_up (fun _ => none) (0 : Int32).toNatClampNeg (some (a5 0))) (1 : Int32).toNatClampNeg (some (a7 0)))))))) :: sceneW k a5 S0 ++ (sceneW k a7 S0 ++ (storeW k a9 ((fun j => j + 1), (0 : Int32), (0 : Int32), (0 : Int32), (0 : Int32), (fun _ => (0 : Int32)), (fun _ => C0)))))) := hD
  refine lv_aload_n hx hb dX4_init_65 rfl (lv_at hl 1 rfl) ?_
  refine va_new (ci := 2) (fs := [.int 0, .int 0, .int 0, .null, .null, .null, .null, .null]) (C := RX2) (T := TX2) (N := 8) hx hb hts hiRX2 tyX2 tyX2_ok hown (hts (.classLink RX4 31 RX2) (by decide +kernel)) (hts (.instantiable RX2 8) (by decide +kernel)) (hts (.initialized RX2) (by decide +kernel)) hK hP hD hS hA rfl (fun j hj => by rcases (show j = 0 ∨ j = 1 ∨ j = 2 ∨ j = 3 ∨ j = 4 ∨ j = 5 ∨ j = 6 ∨ j = 7 by omega) with rfl | rfl | rfl | rfl | rfl | rfl | rfl | rfl <;> rfl) (Nat.le_of_ble_eq_true rfl) (Nat.le_of_ble_eq_true rfl) dX4_init_66 (fun q10 H hP hD hS => ?_)
  have hP : va_P D vwCl ((h0, .inr (4, [.ref (a2 0), .ref q3, .int 0, .ref (a9 0), .null])) :: sceneW k a2 S0 ++ ((q3, .inl (k 4, 2, .inr (.inr (.inr (.inr (va_up (va_up (fun _ => none) (0 : Int32).toNatClampNeg (some (a5 0))) (1 : Int32).toNatClampNeg (some (a7 0)))))))) :: sceneW k a5 S0 ++ (sceneW k a7 S0 ++ (storeW k a9 ((fun j => j + 1), (0 : Int32), (0 : Int32), (0 : Int32), (0 : Int32), (fun _ => (0 : Int32)), (fun _ => C0)) ++ ([(q10, .inr (2, [.int 0, .int 0, .int 0, .null, .null, .null, .null, .null]))]))))) H := hP
  have hD : va_D A ((h0, .inr (4, [.ref (a2 0), .ref q3, .int 0, .ref (a9 0), .null])) :: sceneW k a2 S0 ++ ((q3, .inl (k 4, 2, .inr (.inr (.inr (.inr (va_up (va_up (fun _ => none) (0 : Int32).toNatClampNeg (some (a5 0))) (1 : Int32).toNatClampNeg (some (a7 0)))))))) :: sceneW k a5 S0 ++ (sceneW k a7 S0 ++ (storeW k a9 ((fun j => j + 1), (0 : Int32), (0 : Int32), (0 : Int32), (0 : Int32), (fun _ => (0 : Int32)), (fun _ => C0)) ++ ([(q10, .inr (2, [.int 0, .int 0, .int 0, .null, .null, .null, .null, .null]))]))))) := hD
  refine lv_dup hx hb dX4_init_69 rfl ?_
  refine cIN (rest := [.ref q10, .ref h0]) (wr := (h0, .inr (4, [.ref (a2 0), .ref q3, .int 0, .ref (a9 0), .null])) :: sceneW k a2 S0 ++ ((q3, .inl (k 4, 2, .inr (.inr (.inr (.inr (va_up (va_up (fun _ => none) (0 : Int32).toNatClampNeg (some (a5 0))) (1 : Int32).toNatClampNeg (some (a7 0)))))))) :: sceneW k a5 S0 ++ (sceneW k a7 S0 ++ (storeW k a9 ((fun j => j + 1), (0 : Int32), (0 : Int32), (0 : Int32), (0 : Int32), (fun _ => (0 : Int32)), (fun _ => C0)))))) hx hb hml hown hts hK hN hA1 hA2 hl.1 hP hD hS hA [57] [0, 1, 2, 3, 4, 5, 6, 7, 8, 9, 10, 11, 12, 13, 14, 15, 16, 17, 18, 19, 20, 21, 22, 23, 24, 25, 26, 27, 28, 29, 30, 31, 32, 33, 34, 35, 36, 37, 38, 39, 40, 41, 42, 43, 44, 45, 46, 47, 48, 49, 50, 51, 52, 53, 54, 55, 56] rfl rfl (by decide) (by decide) (c_X2_init l D k q10 H.size C0 hC0) ⟨va_cnB 0 hts ggX4_init_X2_init rfl rfl rfl hN.1 (hts (.initialized RX2) (by decide +kernel)) (by decide +kernel) ⟨Nat.le_of_ble_eq_true rfl, Nat.le_of_ble_eq_true rfl⟩, rfl, hts (.instanceMethod yX2_init) (by decide +kernel)⟩ (Nat.le_of_ble_eq_true rfl) dX4_init_70 ⟨Nat.le_of_ble_eq_true rfl, Nat.le_of_ble_eq_true rfl⟩ (fun a11 H locs e9 hPn hDn hS => ?_)
  subst e9
  have hP := hPn
  have hD := hDn
  have hP : va_P D vwCl ((h0, .inr (4, [.ref (a2 0), .ref q3, .int 0, .ref (a9 0), .null])) :: sceneW k a2 S0 ++ ((q3, .inl (k 4, 2, .inr (.inr (.inr (.inr (va_up (va_up (fun _ => none) (0 : Int32).toNatClampNeg (some (a5 0))) (1 : Int32).toNatClampNeg (some (a7 0)))))))) :: sceneW k a5 S0 ++ (sceneW k a7 S0 ++ (storeW k a9 ((fun j => j + 1), (0 : Int32), (0 : Int32), (0 : Int32), (0 : Int32), (fun _ => (0 : Int32)), (fun _ => C0)) ++ (searchW k a11 ((1000000000 : Int32), (0 : Int32), (0 : Int32), C0, (fun _ => (0 : Int32)), (fun _ => (0 : Int32)), (fun _ => (0 : Int32)), (fun _ => (0 : Int32)))))))) H := hP
  have hD : va_D A ((h0, .inr (4, [.ref (a2 0), .ref q3, .int 0, .ref (a9 0), .null])) :: sceneW k a2 S0 ++ ((q3, .inl (k 4, 2, .inr (.inr (.inr (.inr (va_up (va_up (fun _ => none) (0 : Int32).toNatClampNeg (some (a5 0))) (1 : Int32).toNatClampNeg (some (a7 0)))))))) :: sceneW k a5 S0 ++ (sceneW k a7 S0 ++ (storeW k a9 ((fun j => j + 1), (0 : Int32), (0 : Int32), (0 : Int32), (0 : Int32), (fun _ => (0 : Int32)), (fun _ => C0)) ++ (searchW k a11 ((1000000000 : Int32), (0 : Int32), (0 : Int32), C0, (fun _ => (0 : Int32)), (fun _ => (0 : Int32)), (fun _ => (0 : Int32)), (fun _ => (0 : Int32)))))))) := hD
  refine va_putF (D := D) (ci := 4) (v := .ref (a11 0)) (ty := (.object "RainCells$Search")) (C := RX4) (T := TX4) (N := 5) hx hb hts hiRX4 tyX4 tyX4_ok nmX4 hown hK hP hD hS 0 rfl rfl 4 (by decide) hf34 (fun _ h9 => h9) rfl hin rfl (by decide +kernel) rfl rfl (Nat.le_of_ble_eq_true rfl) dX4_init_73 (fun H locs hP hD hS => ?_)
  have hP : va_P D vwCl ((h0, .inr (4, [.ref (a2 0), .ref q3, .int 0, .ref (a9 0), .ref (a11 0)])) :: sceneW k a2 S0 ++ ((q3, .inl (k 4, 2, .inr (.inr (.inr (.inr (va_up (va_up (fun _ => none) (0 : Int32).toNatClampNeg (some (a5 0))) (1 : Int32).toNatClampNeg (some (a7 0)))))))) :: sceneW k a5 S0 ++ (sceneW k a7 S0 ++ (storeW k a9 ((fun j => j + 1), (0 : Int32), (0 : Int32), (0 : Int32), (0 : Int32), (fun _ => (0 : Int32)), (fun _ => C0)) ++ (searchW k a11 ((1000000000 : Int32), (0 : Int32), (0 : Int32), C0, (fun _ => (0 : Int32)), (fun _ => (0 : Int32)), (fun _ => (0 : Int32)), (fun _ => (0 : Int32)))))))) H := hP
  have hD : va_D A ((h0, .inr (4, [.ref (a2 0), .ref q3, .int 0, .ref (a9 0), .ref (a11 0)])) :: sceneW k a2 S0 ++ ((q3, .inl (k 4, 2, .inr (.inr (.inr (.inr (va_up (va_up (fun _ => none) (0 : Int32).toNatClampNeg (some (a5 0))) (1 : Int32).toNatClampNeg (some (a7 0)))))))) :: sceneW k a5 S0 ++ (sceneW k a7 S0 ++ (storeW k a9 ((fun j => j + 1), (0 : Int32), (0 : Int32), (0 : Int32), (0 : Int32), (fun _ => (0 : Int32)), (fun _ => C0)) ++ (searchW k a11 ((1000000000 : Int32), (0 : Int32), (0 : Int32), C0, (fun _ => (0 : Int32)), (fun _ => (0 : Int32)), (fun _ => (0 : Int32)), (fun _ => (0 : Int32)))))))) := hD
  obtain ⟨a, ha⟩ : ∃ a : Nat → Nat, a = fun n => ([h0, q3, a2 0, a2 1, a2 2, a2 3, a2 4, a2 5, a2 6, a2 7, a5 0, a5 1, a5 2, a5 3, a5 4, a5 5, a5 6, a5 7, a7 0, a7 1, a7 2, a7 3, a7 4, a7 5, a7 6, a7 7, a9 0, a9 1, a9 2, a9 3, a9 4, a9 5, a9 6, a9 7, a9 8, a9 9, a9 10, a9 11, a9 12, a9 13, a9 14, a9 15, a9 16, a9 17, a9 18, a9 19, a9 20, a9 21, a9 22, a9 23, a9 24, a9 25, a9 26, a9 27, a9 28, a9 29, a9 30, a11 0, a11 1, a11 2, a11 3, a11 4, a11 5, a11 6, a11 7, a11 8] : List Nat).getD n 0 := ⟨_, rfl⟩
  have ha0 : a 0 = h0 := by rw [ha]; rfl
  have hD := hD.set (p := 9) (e := .inl (k 4, 2, .inr (.inr (.inr (.inr (fun j => some (a (10 + 8 * j)))))))) rfl
  have hP := va_P.arrq 9 (fun j => some (a (10 + 8 * j))) hP rfl (fun i hi => by rw [ha]; rcases (show i = 0 ∨ i = 1 by omega) with rfl | rfl <;> rfl)
  have hP : va_P D vwCl ((h0, .inr (4, [.ref (a2 0), .ref q3, .int 0, .ref (a9 0), .ref (a11 0)])) :: sceneW k a2 S0 ++ ((q3, .inl (k 4, 2, .inr (.inr (.inr (.inr (fun j => some (a (10 + 8 * j)))))))) :: sceneW k a5 S0 ++ (sceneW k a7 S0 ++ (storeW k a9 ((fun j => j + 1), (0 : Int32), (0 : Int32), (0 : Int32), (0 : Int32), (fun _ => (0 : Int32)), (fun _ => C0)) ++ (searchW k a11 ((1000000000 : Int32), (0 : Int32), (0 : Int32), C0, (fun _ => (0 : Int32)), (fun _ => (0 : Int32)), (fun _ => (0 : Int32)), (fun _ => (0 : Int32)))))))) H := hP
  have hD : va_D A ((h0, .inr (4, [.ref (a2 0), .ref q3, .int 0, .ref (a9 0), .ref (a11 0)])) :: sceneW k a2 S0 ++ ((q3, .inl (k 4, 2, .inr (.inr (.inr (.inr (fun j => some (a (10 + 8 * j)))))))) :: sceneW k a5 S0 ++ (sceneW k a7 S0 ++ (storeW k a9 ((fun j => j + 1), (0 : Int32), (0 : Int32), (0 : Int32), (0 : Int32), (fun _ => (0 : Int32)), (fun _ => C0)) ++ (searchW k a11 ((1000000000 : Int32), (0 : Int32), (0 : Int32), C0, (fun _ => (0 : Int32)), (fun _ => (0 : Int32)), (fun _ => (0 : Int32)), (fun _ => (0 : Int32)))))))) := hD
  have hD := hD.set (p := 27) (e := .inl (k 3, 6, .inr (.inr (.inr (.inr (fun j => some (a (26 + (3 + 4 * (j + 1)))))))))) rfl
  have hP := va_P.arrq 27 (fun j => some (a (26 + (3 + 4 * (j + 1))))) hP rfl (fun i hi => by rw [ha]; rcases (show i = 0 ∨ i = 1 ∨ i = 2 ∨ i = 3 ∨ i = 4 ∨ i = 5 by omega) with rfl | rfl | rfl | rfl | rfl | rfl <;> rfl)
  have hP : va_P D vwCl (rcW k a (S0, S0, S0, (0 : Int32), ((fun j => j + 1), (0 : Int32), (0 : Int32), (0 : Int32), (0 : Int32), (fun _ => (0 : Int32)), (fun _ => C0)), ((1000000000 : Int32), (0 : Int32), (0 : Int32), C0, (fun _ => (0 : Int32)), (fun _ => (0 : Int32)), (fun _ => (0 : Int32)), (fun _ => (0 : Int32))))) H := by rw [ha] at hP ⊢; exact hP.sub [0, 9, 1, 2, 3, 4, 5, 6, 7, 8, 10, 11, 12, 13, 14, 15, 16, 17, 18, 19, 20, 21, 22, 23, 24, 25, 26, 27, 28, 29, 30, 31, 32, 33, 34, 35, 36, 37, 38, 39, 40, 41, 42, 43, 44, 45, 46, 47, 48, 49, 50, 51, 52, 53, 54, 55, 56, 57, 58, 59, 60, 61, 62, 63, 64, 65] rfl
  have hD : va_D A (rcW k a (S0, S0, S0, (0 : Int32), ((fun j => j + 1), (0 : Int32), (0 : Int32), (0 : Int32), (0 : Int32), (fun _ => (0 : Int32)), (fun _ => C0)), ((1000000000 : Int32), (0 : Int32), (0 : Int32), C0, (fun _ => (0 : Int32)), (fun _ => (0 : Int32)), (fun _ => (0 : Int32)), (fun _ => (0 : Int32))))) := by rw [ha] at hD ⊢; exact hD.sub [0, 9, 1, 2, 3, 4, 5, 6, 7, 8, 10, 11, 12, 13, 14, 15, 16, 17, 18, 19, 20, 21, 22, 23, 24, 25, 26, 27, 28, 29, 30, 31, 32, 33, 34, 35, 36, 37, 38, 39, 40, 41, 42, 43, 44, 45, 46, 47, 48, 49, 50, 51, 52, 53, 54, 55, 56, 57, 58, 59, 60, 61, 62, 63, 64, 65] (by decide) rfl
  exact hQ _ _ _ _ a dX4_init_76 ha0 hP hD hS
