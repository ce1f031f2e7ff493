/-! written by wip/whole/gen.py -/
abbrev rm_X3_letAllGo : Room := { frames := 0, cells := 0, slots := 0, locals := 0 }
def f_X3_letAllGo (T : StoreV) : Option (StoreV) := some (T.1, 0, T.2.2)
set_option maxHeartbeats 4000000 in
set_option maxRecDepth 100000 in
theorem c_X3_letAllGo (l : Launch) (D : va_G) (k : Nat → ClassId) (a : Nat → Nat) (T : StoreV) (r : StoreV) (h : f_X3_letAllGo T = some r) : Met l yX3_letAllGo wsX3_letAllGo rm_X3_letAllGo (va_Pc [.ref (a 0)] (MB D k (storeW k a T))) (QM D (storeW k a T) (storeW k a r) none) 0 0 (AD (storeW k a T)) := by
  refine met_Mv (by decide) rfl (Nat.le_of_ble_eq_true rfl) ?_
  intro p e s m below meth c Q args ls hx hb hml hown hts hP hK hN hD hl hQ
  have hl : lv_has ls 1 [(0, .ref (a 0))] := hl
  have hown : s.vm.findClass RX3 = some m.cls := hown
  unfold f_X3_letAllGo at h
  have hiRX3 : ∀ w ∈ u_ws RX3 TX3 7, w ∈ wsX3_letAllGo := by decide +kernel
  have hf17 := hts (.fieldLink RX3 17 "RainCells$Store" "size" "I") (by decide +kernel)
  generalize AD (storeW k a T) = A0 at hD hQ
  have hS : va_S A0 s.heap s.heap [] := va_S.rf
  refine lv_aload_n hx hb dX3_letAllGo_0 rfl (lv_at hl 0 rfl) ?_
  refine lv_iconst (v := 0) hx hb dX3_letAllGo_1 (by decide) ?_
  refine va_put (D := D) (ci := 3) (v := .int 0) (ty := .int) (C := RX3) (T := TX3) (N := 7) hx hb hts hiRX3 tyX3 tyX3_ok nmX3 hown hK hP hD hS 0 rfl rfl 1 (by decide) hf17 (fun _ h9 => h9) rfl (by decide +kernel) rfl rfl (Nat.le_of_ble_eq_true rfl) dX3_letAllGo_2 (fun H locs hP hD hS => ?_)
  have hP : va_P D vwCl (storeW k a (T.1, 0, T.2.2)) H := hP
  have hD : va_D A0 (storeW k a (T.1, 0, T.2.2)) := hD
  obtain rfl := Option.some.inj h
  exact hQ _ _ _ _ dX3_letAllGo_5 hP hS

abbrev rm_X3_putLast : Room := { frames := 0, cells := 0, slots := 0, locals := 0 }
def f_X3_putLast_L9 (p2 : Nat) (z : Int32 × StoreV) : Option ((Int32 × StoreV) ⊕ (StoreV)) := if ((z.2).2.1 - 1) ≤ z.1 then (some (.inr z.2)) else (gd (ix (z.1 + 1) 6) (gd (decide ((((z.2).1) ((z.1 + 1) : Int32).toNatClampNeg) < 7)) (gd (ix z.1 6) (some (.inl ((z.1 + 1), ((va_up ((z.2).1) (z.1 : Int32).toNatClampNeg (((z.2).1) ((z.1 + 1) : Int32).toNatClampNeg)), (z.2).2)))))))
def f_X3_putLast (T : StoreV) (y1 : Int32) : Option (Nat × StoreV) := gd (ix y1 6) (gd (decide ((T.1 (y1 : Int32).toNatClampNeg) < 7)) ((lp (f_X3_putLast_L9 (T.1 (y1 : Int32).toNatClampNeg)) fu (y1, T)).bind (fun x3 => gd (ix (x3.2.1 - 1) 6) (some ((T.1 (y1 : Int32).toNatClampNeg), ((va_up x3.1 ((x3.2.1 - 1) : Int32).toNatClampNeg (T.1 (y1 : Int32).toNatClampNeg)), x3.2))))))
set_option maxHeartbeats 4000000 in
set_option maxRecDepth 100000 in
theorem c_X3_putLast (l : Launch) (D : va_G) (k : Nat → ClassId) (a : Nat → Nat) (T : StoreV) (y1 : Int32) (r : Nat × StoreV) (h : f_X3_putLast T y1 = some r) : Met l yX3_putLast wsX3_putLast rm_X3_putLast (va_Pc [.ref (a 0), .int y1] (MB D k (storeW k a T))) (QM D (storeW k a T) (storeW k a r.2) (some (.ref (a (3 + 4 * r.1))))) 0 0 (AD (storeW k a T)) := by
  refine met_Mr (by decide) rfl (Nat.le_of_ble_eq_true rfl) ?_
  intro p e s m below meth c Q args ls hx hb hml hown hts hP hK hN hD hl hQ
  have hl : lv_has ls 4 [(0, .ref (a 0)), (1, .int y1)] := hl
  have hown : s.vm.findClass RX3 = some m.cls := hown
  unfold f_X3_putLast at h
  have hiRX3 : ∀ w ∈ u_ws RX3 TX3 7, w ∈ wsX3_putLast := by decide +kernel
  have hf11 := hts (.fieldLink RX3 11 "RainCells$Store" "cells" "[LRainCells$Cells;") (by decide +kernel)
  have hf17 := hts (.fieldLink RX3 17 "RainCells$Store" "size" "I") (by decide +kernel)
  generalize AD (storeW k a T) = A0 at hD hQ
  have hS : va_S A0 s.heap s.heap [] := va_S.rf
  refine lv_aload_n hx hb dX3_putLast_0 rfl (lv_at hl 0 rfl) ?_
  refine va_get (D := D) (ci := 3) (v := .ref (a 1)) (C := RX3) (T := TX3) (N := 7) hx hb hts hiRX3 hown hK hP 0 rfl rfl 0 (by decide) hf11 (fun _ h9 => h9) rfl dX3_putLast_1 ?_
  refine lv_iload_n hx hb dX3_putLast_4 rfl (lv_at hl 1 rfl) ?_
  obtain ⟨c1, h⟩ := gd_s h
  obtain ⟨c2, h⟩ := gd_s h
  refine va_aldq (D := D) hx hb hK hP 1 3 rfl rfl (ix_in c1) dX3_putLast_5 ?_
  show W p l e rm_X3_putLast s m args below meth c s.heap [] 0 0 Q (F0 m 6 ls [.ref (a (3 + 4 * (T.1 (y1 : Int32).toNatClampNeg)))])
  refine lv_astore_n (lv' := [(2, .ref (a (3 + 4 * (T.1 (y1 : Int32).toNatClampNeg)))), (0, .ref (a 0)), (1, .int y1)]) hx hb dX3_putLast_6 rfl hl (by decide) rfl (fun ls hl => ?_)
  refine lv_iload_n hx hb dX3_putLast_7 rfl (lv_at hl 2 rfl) ?_
  refine lv_istore_n (lv' := [(3, .int y1), (2, .ref (a (3 + 4 * (T.1 (y1 : Int32).toNatClampNeg)))), (0, .ref (a 0)), (1, .int y1)]) hx hb dX3_putLast_8 rfl hl (by decide) rfl (fun ls hl => ?_)
  obtain ⟨x3, h4, h⟩ := bd_s h
  have K15 : ∀ (ls : Array Slot) (H : Heap) (locs : List Loc), lv_has ls 4 [(0, .ref (a 0)), (2, .ref (a (3 + 4 * (T.1 (y1 : Int32).toNatClampNeg))))] → va_P D vwCl (storeW k a x3) H → va_D A0 (storeW k a x3) → va_S A0 s.heap H locs → W p l e rm_X3_putLast s m args below meth c H locs 0 0 Q (F0 m 39 ls []) := by
    intro ls H locs hl hP hD hS
    refine lv_aload_n hx hb dX3_putLast_39 rfl (lv_at hl 0 rfl) ?_
    refine va_get (D := D) (ci := 3) (v := .ref (a 1)) (C := RX3) (T := TX3) (N := 7) hx hb hts hiRX3 hown hK hP 0 rfl rfl 0 (by decide) hf11 (fun _ h9 => h9) rfl dX3_putLast_40 ?_
    refine lv_aload_n hx hb dX3_putLast_43 rfl (lv_at hl 0 rfl) ?_
    refine va_get (D := D) (ci := 3) (v := .int x3.2.1) (C := RX3) (T := TX3) (N := 7) hx hb hts hiRX3 hown hK hP 0 rfl rfl 1 (by decide) hf17 (fun _ h9 => h9) rfl dX3_putLast_44 ?_
    refine lv_iconst (v := 1) hx hb dX3_putLast_47 (by decide) ?_
    refine lv_isub hx hb dX3_putLast_48 ?_
    refine lv_aload_n hx hb dX3_putLast_49 rfl (lv_at hl 1 rfl) ?_
    obtain ⟨c10, h⟩ := gd_s h
    refine st_aast (p9 := (T.1 (y1 : Int32).toNatClampNeg)) hx hb hK hP hD hS (of_decide_eq_true c2) (ix_in c10) dX3_putLast_50 (fun H locs hP hD hS => ?_)
    have hP : va_P D vwCl (storeW k a ((va_up x3.1 ((x3.2.1 - 1) : Int32).toNatClampNeg (T.1 (y1 : Int32).toNatClampNeg)), x3.2)) H := hP
    have hD : va_D A0 (storeW k a ((va_up x3.1 ((x3.2.1 - 1) : Int32).toNatClampNeg (T.1 (y1 : Int32).toNatClampNeg)), x3.2)) := hD
    refine lv_aload_n hx hb dX3_putLast_51 rfl (lv_at hl 1 rfl) ?_
    obtain rfl := Option.some.inj h
    exact hQ _ _ _ _ dX3_putLast_52 hP hS
  refine lp_W (P := fun z5 => ∀ (ls : Array Slot) (H : Heap) (locs : List Loc), lv_has ls 4 [(0, .ref (a 0)), (2, .ref (a (3 + 4 * (T.1 (y1 : Int32).toNatClampNeg)))), (3, .int z5.1)] → va_P D vwCl (storeW k a z5.2) H → va_D A0 (storeW k a z5.2) → va_S A0 s.heap H locs → W p l e rm_X3_putLast s m args below meth c H locs 0 0 Q (F0 m 9 ls [])) (E := fun x3 => ∀ (ls : Array Slot) (H : Heap) (locs : List Loc), lv_has ls 4 [(0, .ref (a 0)), (2, .ref (a (3 + 4 * (T.1 (y1 : Int32).toNatClampNeg))))] → va_P D vwCl (storeW k a x3) H → va_D A0 (storeW k a x3) → va_S A0 s.heap H locs → W p l e rm_X3_putLast s m args below meth c H locs 0 0 Q (F0 m 39 ls [])) (fun z5 xx7 hB6 kI8 kE9 => ?_) _ _ _ h4 K15 ls s.heap [] (lv_sub hl [2, 1, 0] rfl) hP hD hS
  intro ls H locs hl hP hD hS
  unfold f_X3_putLast_L9 at hB6
  refine lv_iload_n hx hb dX3_putLast_9 rfl (lv_at hl 2 rfl) ?_
  refine lv_aload_n hx hb dX3_putLast_10 rfl (lv_at hl 0 rfl) ?_
  refine va_get (D := D) (ci := 3) (v := .int ((z5.2).2.1)) (C := RX3) (T := TX3) (N := 7) hx hb hts hiRX3 hown hK hP 0 rfl rfl 1 (by decide) hf17 (fun _ h9 => h9) rfl dX3_putLast_11 ?_
  refine lv_iconst (v := 1) hx hb dX3_putLast_14 (by decide) ?_
  refine lv_isub hx hb dX3_putLast_15 ?_
  refine lv_icmp_ge (tgt := 39) hx hb dX3_putLast_16 (by decide) (fun c11 => ?_) (fun c11 => ?_)
  · have hB6 := if_t hB6 c11
    exact kE9 _ (Option.some.inj hB6).symm ls H locs (lv_sub hl [0, 1] rfl) hP hD hS
  · have hB6 := if_f hB6 c11
    refine lv_aload_n hx hb dX3_putLast_19 rfl (lv_at hl 0 rfl) ?_
    refine va_get (D := D) (ci := 3) (v := .ref (a 1)) (C := RX3) (T := TX3) (N := 7) hx hb hts hiRX3 hown hK hP 0 rfl rfl 0 (by decide) hf11 (fun _ h9 => h9) rfl dX3_putLast_20 ?_
    refine lv_iload_n hx hb dX3_putLast_23 rfl (lv_at hl 2 rfl) ?_
    refine lv_aload_n hx hb dX3_putLast_24 rfl (lv_at hl 0 rfl) ?_
    refine va_get (D := D) (ci := 3) (v := .ref (a 1)) (C := RX3) (T := TX3) (N := 7) hx hb hts hiRX3 hown hK hP 0 rfl rfl 0 (by decide) hf11 (fun _ h9 => h9) rfl dX3_putLast_25 ?_
    refine lv_iload_n hx hb dX3_putLast_28 rfl (lv_at hl 2 rfl) ?_
    refine lv_iconst (v := 1) hx hb dX3_putLast_29 (by decide) ?_
    refine lv_iadd hx hb dX3_putLast_30 ?_
    obtain ⟨c12, hB6⟩ := gd_s hB6
    obtain ⟨c13, hB6⟩ := gd_s hB6
    refine va_aldq (D := D) hx hb hK hP 1 3 rfl rfl (ix_in c12) dX3_putLast_31 ?_
    show W p l e rm_X3_putLast s m args below meth c H locs 0 0 Q (F0 m 32 ls [.ref (a (3 + 4 * (((z5.2).1) ((z5.1 + 1) : Int32).toNatClampNeg))), .int z5.1, .ref (a 1)])
    obtain ⟨c14, hB6⟩ := gd_s hB6
    refine st_aast (p9 := (((z5.2).1) ((z5.1 + 1) : Int32).toNatClampNeg)) hx hb hK hP hD hS (of_decide_eq_true c13) (ix_in c14) dX3_putLast_32 (fun H locs hP hD hS => ?_)
    have hP : va_P D vwCl (storeW k a ((va_up ((z5.2).1) (z5.1 : Int32).toNatClampNeg (((z5.2).1) ((z5.1 + 1) : Int32).toNatClampNeg)), (z5.2).2)) H := hP
    have hD : va_D A0 (storeW k a ((va_up ((z5.2).1) (z5.1 : Int32).toNatClampNeg (((z5.2).1) ((z5.1 + 1) : Int32).toNatClampNeg)), (z5.2).2)) := hD
    refine lv_iinc (v := (z5.1 + 1)) (lv' := [(3, .int (z5.1 + 1)), (0, .ref (a 0)), (2, .ref (a (3 + 4 * (T.1 (y1 : Int32).toNatClampNeg))))]) hx hb dX3_putLast_33 hl (k := 2) rfl rfl (by decide) rfl (fun ls hl => ?_)
    refine lv_goto (tgt := 9) hx hb dX3_putLast_36 (by decide) ?_
    exact kI8 _ (Option.some.inj hB6).symm ls H locs (lv_sub hl [1, 2, 0] rfl) hP hD hS

abbrev rm_X3_room : Room := { frames := 1, cells := 0, slots := 0, locals := 23 }
def f_X3_room (T : StoreV) : Option (Nat × StoreV) := if 6 ≤ T.2.1 then ((f_X3_putLast (T.1, T.2.1, T.2.2.1, T.2.2.2.1, (T.2.2.2.2.1 + 1), T.2.2.2.2.2) 0).bind (fun x2 => some (x2.1, x2.2))) else (gd (ix ((T.2.1 + 1) - 1) 6) (gd (decide ((T.1 (((T.2.1 + 1) - 1) : Int32).toNatClampNeg) < 7)) (some ((T.1 (((T.2.1 + 1) - 1) : Int32).toNatClampNeg), (T.1, (T.2.1 + 1), T.2.2)))))
set_option maxHeartbeats 4000000 in
set_option maxRecDepth 100000 in
theorem c_X3_room (l : Launch) (D : va_G) (k : Nat → ClassId) (a : Nat → Nat) (T : StoreV) (r : Nat × StoreV) (h : f_X3_room T = some r) : Met l yX3_room wsX3_room rm_X3_room (va_Pc [.ref (a 0)] (MB D k (storeW k a T))) (QM D (storeW k a T) (storeW k a r.2) (some (.ref (a (3 + 4 * r.1))))) 0 0 (AD (storeW k a T)) := by
  refine met_Mr (by decide) rfl (Nat.le_of_ble_eq_true rfl) ?_
  intro p e s m below meth c Q args ls hx hb hml hown hts hP hK hN hD hl hQ
  have hl : lv_has ls 1 [(0, .ref (a 0))] := hl
  have hown : s.vm.findClass RX3 = some m.cls := hown
  unfold f_X3_room at h
  have hiRX3 : ∀ w ∈ u_ws RX3 TX3 7, w ∈ wsX3_room := by decide +kernel
  have hf17 := hts (.fieldLink RX3 17 "RainCells$Store" "size" "I") (by decide +kernel)
  have hf27 := hts (.fieldLink RX3 27 "RainCells$Store" "replaced" "I") (by decide +kernel)
  have hf11 := hts (.fieldLink RX3 11 "RainCells$Store" "cells" "[LRainCells$Cells;") (by decide +kernel)
  generalize AD (storeW k a T) = A0 at hD hQ
  have hS : va_S A0 s.heap s.heap [] := va_S.rf
  refine lv_aload_n hx hb dX3_room_0 rfl (lv_at hl 0 rfl) ?_
  refine va_get (D := D) (ci := 3) (v := .int T.2.1) (C := RX3) (T := TX3) (N := 7) hx hb hts hiRX3 hown hK hP 0 rfl rfl 1 (by decide) hf17 (fun _ h9 => h9) rfl dX3_room_1 ?_
  refine lv_bipush (v := 6) hx hb dX3_room_4 (by decide) ?_
  refine lv_icmp_ge (tgt := 31) hx hb dX3_room_6 (by decide) (fun c1 => ?_) (fun c1 => ?_)
  · have h := if_t h c1
    refine lv_aload_n hx hb dX3_room_31 rfl (lv_at hl 0 rfl) ?_
    refine lv_dup hx hb dX3_room_32 rfl ?_
    refine va_get (D := D) (ci := 3) (v := .int T.2.2.2.2.1) (C := RX3) (T := TX3) (N := 7) hx hb hts hiRX3 hown hK hP 0 rfl rfl 4 (by decide) hf27 (fun _ h9 => h9) rfl dX3_room_33 ?_
    refine lv_iconst (v := 1) hx hb dX3_room_36 (by decide) ?_
    refine lv_iadd hx hb dX3_room_37 ?_
    refine va_put (D := D) (ci := 3) (v := .int (T.2.2.2.2.1 + 1)) (ty := .int) (C := RX3) (T := TX3) (N := 7) hx hb hts hiRX3 tyX3 tyX3_ok nmX3 hown hK hP hD hS 0 rfl rfl 4 (by decide) hf27 (fun _ h9 => h9) rfl (by decide +kernel) rfl rfl (Nat.le_of_ble_eq_true rfl) dX3_room_38 (fun H locs hP hD hS => ?_)
    have hP : va_P D vwCl (storeW k a (T.1, T.2.1, T.2.2.1, T.2.2.2.1, (T.2.2.2.2.1 + 1), T.2.2.2.2.2)) H := hP
    have hD : va_D A0 (storeW k a (T.1, T.2.1, T.2.2.1, T.2.2.2.1, (T.2.2.2.2.1 + 1), T.2.2.2.2.2)) := hD
    refine lv_aload_n hx hb dX3_room_41 rfl (lv_at hl 0 rfl) ?_
    refine lv_iconst (v := 0) hx hb dX3_room_42 (by decide) ?_
    obtain ⟨x2, h3, h⟩ := bd_s h
    refine cM_V (As := [.int 0]) (rest := []) (n := 1) (ov := (some (.ref (a (3 + 4 * x2.1))))) (wc := storeW k a (T.1, T.2.1, T.2.2.1, T.2.2.2.1, (T.2.2.2.2.1 + 1), T.2.2.2.2.2)) (wc' := storeW k a x2.2) (w1 := storeW k a x2.2) hx hb hml hown hts hK hN hl.1 hP hD hS (Sp.idx (N := 31) [0, 1, 2, 3, 4, 5, 6, 7, 8, 9, 10, 11, 12, 13, 14, 15, 16, 17, 18, 19, 20, 21, 22, 23, 24, 25, 26, 27, 28, 29, 30] [] (by decide) rfl rfl rfl (Nat.le_of_ble_eq_true rfl) (by decide) (by decide) rfl) (c_X3_putLast l D k a (T.1, T.2.1, T.2.2.1, T.2.2.2.1, (T.2.2.2.2.1 + 1), T.2.2.2.2.2) 0 x2 h3) gX3_room_X3_putLast rfl (by decide +kernel) ⟨⟨rfl, rfl⟩, by decide, by decide⟩ 0 3 rfl rfl rfl rfl rfl (Nat.le_of_ble_eq_true rfl) dX3_room_43 ⟨Nat.zero_le _, Nat.zero_le _⟩ (fun H locs hP hD hS => ?_)
    show W p l e rm_X3_room s m args below meth c H locs 0 0 Q (F0 m 46 ls [.ref (a (3 + 4 * x2.1))])
    obtain rfl := Option.some.inj h
    exact hQ _ _ _ _ dX3_room_46 hP hS
  · have h := if_f h c1
    refine lv_aload_n hx hb dX3_room_9 rfl (lv_at hl 0 rfl) ?_
    refine lv_dup hx hb dX3_room_10 rfl ?_
    refine va_get (D := D) (ci := 3) (v := .int T.2.1) (C := RX3) (T := TX3) (N := 7) hx hb hts hiRX3 hown hK hP 0 rfl rfl 1 (by decide) hf17 (fun _ h9 => h9) rfl dX3_room_11 ?_
    refine lv_iconst (v := 1) hx hb dX3_room_14 (by decide) ?_
    refine lv_iadd hx hb dX3_room_15 ?_
    refine va_put (D := D) (ci := 3) (v := .int (T.2.1 + 1)) (ty := .int) (C := RX3) (T := TX3) (N := 7) hx hb hts hiRX3 tyX3 tyX3_ok nmX3 hown hK hP hD hS 0 rfl rfl 1 (by decide) hf17 (fun _ h9 => h9) rfl (by decide +kernel) rfl rfl (Nat.le_of_ble_eq_true rfl) dX3_room_16 (fun H locs hP hD hS => ?_)
    have hP : va_P D vwCl (storeW k a (T.1, (T.2.1 + 1), T.2.2)) H := hP
    have hD : va_D A0 (storeW k a (T.1, (T.2.1 + 1), T.2.2)) := hD
    refine lv_aload_n hx hb dX3_room_19 rfl (lv_at hl 0 rfl) ?_
    refine va_get (D := D) (ci := 3) (v := .ref (a 1)) (C := RX3) (T := TX3) (N := 7) hx hb hts hiRX3 hown hK hP 0 rfl rfl 0 (by decide) hf11 (fun _ h9 => h9) rfl dX3_room_20 ?_
    refine lv_aload_n hx hb dX3_room_23 rfl (lv_at hl 0 rfl) ?_
    refine va_get (D := D) (ci := 3) (v := .int (T.2.1 + 1)) (C := RX3) (T := TX3) (N := 7) hx hb hts hiRX3 hown hK hP 0 rfl rfl 1 (by decide) hf17 (fun _ h9 => h9) rfl dX3_room_24 ?_
    refine lv_iconst (v := 1) hx hb dX3_room_27 (by decide) ?_
    refine lv_isub hx hb dX3_room_28 ?_
    obtain ⟨c4, h⟩ := gd_s h
    obtain ⟨c5, h⟩ := gd_s h
    refine va_aldq (D := D) hx hb hK hP 1 3 rfl rfl (ix_in c4) dX3_room_29 ?_
    show W p l e rm_X3_room s m args below meth c H locs 0 0 Q (F0 m 30 ls [.ref (a (3 + 4 * (T.1 (((T.2.1 + 1) - 1) : Int32).toNatClampNeg)))])
    obtain rfl := Option.some.inj h
    exact hQ _ _ _ _ dX3_room_30 hP hS

abbrev rm_X3_lookUp : Room := { frames := 2, cells := 0, slots := 0, locals := 57 }
def f_X3_lookUp_L2 (T : StoreV) (S : SceneV) (y2 : Int32) (z : Int32) : Option ((Int32) ⊕ ((Unit) ⊕ (Int32))) := if T.2.1 ≤ z then (some (.inr (.inl ()))) else (gd (ix z 6) (gd (decide ((T.1 (z : Int32).toNatClampNeg) < 7)) (if (T.2.2.2.2.2.2 (T.1 (z : Int32).toNatClampNeg)).1 = y2 then (some (.inr (.inr z))) else (some (.inl (z + 1))))))
def f_X3_lookUp (T : StoreV) (S : SceneV) (y2 : Int32) : Option (Nat × StoreV) := (lp (f_X3_lookUp_L2 T S y2) fu 0).bind (fun x1 => match x1 with | .inl x1_0 => (f_X3_room (T.1, T.2.1, T.2.2.1, (T.2.2.2.1 + 1), T.2.2.2.2)).bind (fun x8 => gd (decide (x8.1 < 7)) ((f_X0_workOut ((x8.2).2.2.2.2.2.2 x8.1) S ((x8.2).2.2.2.2.2.1) y2).bind (fun x11 => some (x8.1, ((x8.2).1, (x8.2).2.1, (x8.2).2.2.1, (x8.2).2.2.2.1, (x8.2).2.2.2.2.1, x11.2, (va_up ((x8.2).2.2.2.2.2.2) x8.1 x11.1)))))) | .inr x1_1 => (f_X3_putLast (T.1, T.2.1, (T.2.2.1 + 1), T.2.2.2) x1_1).bind (fun x13 => some (x13.1, x13.2)))
set_option maxHeartbeats 4000000 in
set_option maxRecDepth 100000 in
theorem c_X3_lookUp (l : Launch) (D : va_G) (k : Nat → ClassId) (a : Nat → Nat) (b : Nat → Nat) (T : StoreV) (S : SceneV) (y2 : Int32) (r : Nat × StoreV) (h : f_X3_lookUp T S y2 = some r) : Met l yX3_lookUp wsX3_lookUp rm_X3_lookUp (va_Pc [.ref (a 0), .ref (b 0), .int y2] (MB D k (storeW k a T ++ (sceneW k b S)))) (QM D (storeW k a T ++ (sceneW k b S)) (storeW k a r.2 ++ (sceneW k b S)) (some (.ref (a (3 + 4 * r.1))))) 0 0 (AD (storeW k a T ++ (sceneW k b S))) := by
  refine met_Mr (by decide) rfl (Nat.le_of_ble_eq_true rfl) ?_
  intro p e s m below meth c Q args ls hx hb hml hown hts hP hK hN hD hl hQ
  have hl : lv_has ls 4 [(0, .ref (a 0)), (1, .ref (b 0)), (2, .int y2)] := hl
  have hown : s.vm.findClass RX3 = some m.cls := hown
  unfold f_X3_lookUp at h
  have hiRX3 : ∀ w ∈ u_ws RX3 TX3 7, w ∈ wsX3_lookUp := by decide +kernel
  have hiRX0 : ∀ w ∈ u_ws RX0 TX0 4, w ∈ wsX3_lookUp := by decide +kernel
  have hf17 := hts (.fieldLink RX3 17 "RainCells$Store" "size" "I") (by decide +kernel)
  have hf11 := hts (.fieldLink RX3 11 "RainCells$Store" "cells" "[LRainCells$Cells;") (by decide +kernel)
  have hf39 := hts (.fieldLink RX3 39 "RainCells$Cells" "set" "I") (by decide +kernel)
  have hf24 := hts (.fieldLink RX3 24 "RainCells$Store" "workedOut" "I") (by decide +kernel)
  have hf35 := hts (.fieldLink RX3 35 "RainCells$Store" "lefts" "[I") (by decide +kernel)
  have hf21 := hts (.fieldLink RX3 21 "RainCells$Store" "found" "I") (by decide +kernel)
  generalize AD (storeW k a T ++ (sceneW k b S)) = A0 at hD hQ
  have hS : va_S A0 s.heap s.heap [] := va_S.rf
  refine lv_iconst (v := 0) hx hb dX3_lookUp_0 (by decide) ?_
  refine lv_istore_n (lv' := [(3, .int 0), (0, .ref (a 0)), (1, .ref (b 0)), (2, .int y2)]) hx hb dX3_lookUp_1 rfl hl (by decide) rfl (fun ls hl => ?_)
  obtain ⟨x1, h2, h⟩ := bd_s h
  have K19 : (fun x1 => Sum.casesOn x1 (fun x1_0 => ∀ (ls : Array Slot), lv_has ls 4 [(0, .ref (a 0)), (1, .ref (b 0)), (2, .int y2)] → W p l e rm_X3_lookUp s m args below meth c s.heap [] 0 0 Q (F0 m 45 ls [])) (fun x1_1 => ∀ (ls : Array Slot), lv_has ls 4 [(0, .ref (a 0)), (3, .int x1_1)] → W p l e rm_X3_lookUp s m args below meth c s.heap [] 0 0 Q (F0 m 23 ls []))) x1 := by
    cases x1 with
    | inl x1_0 =>
      intro ls hl
      refine lv_aload_n hx hb dX3_lookUp_45 rfl (lv_at hl 0 rfl) ?_
      refine lv_dup hx hb dX3_lookUp_46 rfl ?_
      refine va_get (D := D) (ci := 3) (v := .int T.2.2.2.1) (C := RX3) (T := TX3) (N := 7) hx hb hts hiRX3 hown hK hP 0 rfl rfl 3 (by decide) hf24 (fun _ h9 => h9) rfl dX3_lookUp_47 ?_
      refine lv_iconst (v := 1) hx hb dX3_lookUp_50 (by decide) ?_
      refine lv_iadd hx hb dX3_lookUp_51 ?_
      refine va_put (D := D) (ci := 3) (v := .int (T.2.2.2.1 + 1)) (ty := .int) (C := RX3) (T := TX3) (N := 7) hx hb hts hiRX3 tyX3 tyX3_ok nmX3 hown hK hP hD hS 0 rfl rfl 3 (by decide) hf24 (fun _ h9 => h9) rfl (by decide +kernel) rfl rfl (Nat.le_of_ble_eq_true rfl) dX3_lookUp_52 (fun H locs hP hD hS => ?_)
      have hP : va_P D vwCl (storeW k a (T.1, T.2.1, T.2.2.1, (T.2.2.2.1 + 1), T.2.2.2.2) ++ (sceneW k b S)) H := hP
      have hD : va_D A0 (storeW k a (T.1, T.2.1, T.2.2.1, (T.2.2.2.1 + 1), T.2.2.2.2) ++ (sceneW k b S)) := hD
      refine lv_aload_n hx hb dX3_lookUp_55 rfl (lv_at hl 0 rfl) ?_
      obtain ⟨x8, h9, h⟩ := bd_s h
      refine cM_V (As := []) (rest := []) (n := 0) (ov := (some (.ref (a (3 + 4 * x8.1))))) (wc := storeW k a (T.1, T.2.1, T.2.2.1, (T.2.2.2.1 + 1), T.2.2.2.2)) (wc' := storeW k a x8.2) (w1 := storeW k a x8.2 ++ (sceneW k b S)) hx hb hml hown hts hK hN hl.1 hP hD hS (Sp.idx (N := 39) [0, 1, 2, 3, 4, 5, 6, 7, 8, 9, 10, 11, 12, 13, 14, 15, 16, 17, 18, 19, 20, 21, 22, 23, 24, 25, 26, 27, 28, 29, 30] [31, 32, 33, 34, 35, 36, 37, 38] (by decide) rfl rfl rfl (Nat.le_of_ble_eq_true rfl) (by decide) (by decide) rfl) (c_X3_room l D k a (T.1, T.2.1, T.2.2.1, (T.2.2.2.1 + 1), T.2.2.2.2) x8 h9) gX3_lookUp_X3_room rfl (by decide +kernel) ⟨⟨rfl, rfl⟩, by decide, by decide⟩ 0 3 rfl rfl rfl rfl rfl (Nat.le_of_ble_eq_true rfl) dX3_lookUp_56 ⟨Nat.zero_le _, Nat.zero_le _⟩ (fun H locs hP hD hS => ?_)
      show W p l e rm_X3_lookUp s m args below meth c H locs 0 0 Q (F0 m 59 ls [.ref (a (3 + 4 * x8.1))])
      refine lv_astore_n (lv' := [(3, .ref (a (3 + 4 * x8.1))), (0, .ref (a 0)), (1, .ref (b 0)), (2, .int y2)]) hx hb dX3_lookUp_59 rfl hl (by decide) rfl (fun ls hl => ?_)
      refine lv_aload_n hx hb dX3_lookUp_60 rfl (lv_at hl 0 rfl) ?_
      refine lv_aload_n hx hb dX3_lookUp_61 rfl (lv_at hl 2 rfl) ?_
      refine lv_iload_n hx hb dX3_lookUp_62 rfl (lv_at hl 3 rfl) ?_
      refine lv_aload_n hx hb dX3_lookUp_63 rfl (lv_at hl 1 rfl) ?_
      refine va_get (D := D) (ci := 3) (v := .ref (a 2)) (C := RX3) (T := TX3) (N := 7) hx hb hts hiRX3 hown hK hP 0 rfl rfl 6 (by decide) hf35 (fun _ h9 => h9) rfl dX3_lookUp_64 ?_
      obtain ⟨c10, h⟩ := gd_s h
      obtain ⟨x11, h12, h⟩ := bd_s h
      refine cM_V (As := [.ref (b 0), .int y2, .ref (a 2)]) (rest := []) (n := 3) (ov := none) (wc := cellsW k (fun j => a (3 + 4 * x8.1 + j)) ((x8.2).2.2.2.2.2.2 x8.1) ++ (sceneW k b S ++ (arrW k (fun j => a (2 + j)) 256 ((x8.2).2.2.2.2.2.1)))) (wc' := cellsW k (fun j => a (3 + 4 * x8.1 + j)) x11.1 ++ (sceneW k b S ++ (arrW k (fun j => a (2 + j)) 256 x11.2))) (w1 := storeW k a ((x8.2).1, (x8.2).2.1, (x8.2).2.2.1, (x8.2).2.2.2.1, (x8.2).2.2.2.2.1, x11.2, (va_up ((x8.2).2.2.2.2.2.2) x8.1 x11.1)) ++ (sceneW k b S)) hx hb hml hown hts hK hN hl.1 hP hD hS (st_work (of_decide_eq_true c10)) (c_X0_workOut l D k (fun j => a (3 + 4 * x8.1 + j)) b (fun j => a (2 + j)) ((x8.2).2.2.2.2.2.2 x8.1) S ((x8.2).2.2.2.2.2.1) y2 x11 h12) gX3_lookUp_X0_workOut rfl (by decide +kernel) ⟨⟨rfl, rfl⟩, by decide, by decide⟩ 0 0 rfl rfl rfl rfl rfl (Nat.le_of_ble_eq_true rfl) dX3_lookUp_67 ⟨Nat.zero_le _, Nat.zero_le _⟩ (fun H locs hP hD hS => ?_)
      show W p l e rm_X3_lookUp s m args below meth c H locs 0 0 Q (F0 m 70 ls [])
      refine lv_aload_n hx hb dX3_lookUp_70 rfl (lv_at hl 0 rfl) ?_
      obtain rfl := Option.some.inj h
      exact hQ _ _ _ _ dX3_lookUp_71 hP hS
    | inr x1_1 =>
      intro ls hl
      refine lv_aload_n hx hb dX3_lookUp_23 rfl (lv_at hl 0 rfl) ?_
      refine lv_dup hx hb dX3_lookUp_24 rfl ?_
      refine va_get (D := D) (ci := 3) (v := .int T.2.2.1) (C := RX3) (T := TX3) (N := 7) hx hb hts hiRX3 hown hK hP 0 rfl rfl 2 (by decide) hf21 (fun _ h9 => h9) rfl dX3_lookUp_25 ?_
      refine lv_iconst (v := 1) hx hb dX3_lookUp_28 (by decide) ?_
      refine lv_iadd hx hb dX3_lookUp_29 ?_
      refine va_put (D := D) (ci := 3) (v := .int (T.2.2.1 + 1)) (ty := .int) (C := RX3) (T := TX3) (N := 7) hx hb hts hiRX3 tyX3 tyX3_ok nmX3 hown hK hP hD hS 0 rfl rfl 2 (by decide) hf21 (fun _ h9 => h9) rfl (by decide +kernel) rfl rfl (Nat.le_of_ble_eq_true rfl) dX3_lookUp_30 (fun H locs hP hD hS => ?_)
      have hP : va_P D vwCl (storeW k a (T.1, T.2.1, (T.2.2.1 + 1), T.2.2.2) ++ (sceneW k b S)) H := hP
      have hD : va_D A0 (storeW k a (T.1, T.2.1, (T.2.2.1 + 1), T.2.2.2) ++ (sceneW k b S)) := hD
      refine lv_aload_n hx hb dX3_lookUp_33 rfl (lv_at hl 0 rfl) ?_
      refine lv_iload_n hx hb dX3_lookUp_34 rfl (lv_at hl 1 rfl) ?_
      obtain ⟨x13, h14, h⟩ := bd_s h
      refine cM_V (As := [.int x1_1]) (rest := []) (n := 1) (ov := (some (.ref (a (3 + 4 * x13.1))))) (wc := storeW k a (T.1, T.2.1, (T.2.2.1 + 1), T.2.2.2)) (wc' := storeW k a x13.2) (w1 := storeW k a x13.2 ++ (sceneW k b S)) hx hb hml hown hts hK hN hl.1 hP hD hS (Sp.idx (N := 39) [0, 1, 2, 3, 4, 5, 6, 7, 8, 9, 10, 11, 12, 13, 14, 15, 16, 17, 18, 19, 20, 21, 22, 23, 24, 25, 26, 27, 28, 29, 30] [31, 32, 33, 34, 35, 36, 37, 38] (by decide) rfl rfl rfl (Nat.le_of_ble_eq_true rfl) (by decide) (by decide) rfl) (c_X3_putLast l D k a (T.1, T.2.1, (T.2.2.1 + 1), T.2.2.2) x1_1 x13 h14) gX3_lookUp_X3_putLast rfl (by decide +kernel) ⟨⟨rfl, rfl⟩, by decide, by decide⟩ 0 3 rfl rfl rfl rfl rfl (Nat.le_of_ble_eq_true rfl) dX3_lookUp_35 ⟨Nat.zero_le _, Nat.zero_le _⟩ (fun H locs hP hD hS => ?_)
      show W p l e rm_X3_lookUp s m args below meth c H locs 0 0 Q (F0 m 38 ls [.ref (a (3 + 4 * x13.1))])
      obtain rfl := Option.some.inj h
      exact hQ _ _ _ _ dX3_lookUp_38 hP hS
  refine lp_W (P := fun z3 => ∀ (ls : Array Slot), lv_has ls 4 [(0, .ref (a 0)), (1, .ref (b 0)), (2, .int y2), (3, .int z3)] → W p l e rm_X3_lookUp s m args below meth c s.heap [] 0 0 Q (F0 m 2 ls [])) (E := fun x1 => Sum.casesOn x1 (fun x1_0 => ∀ (ls : Array Slot), lv_has ls 4 [(0, .ref (a 0)), (1, .ref (b 0)), (2, .int y2)] → W p l e rm_X3_lookUp s m args below meth c s.heap [] 0 0 Q (F0 m 45 ls [])) (fun x1_1 => ∀ (ls : Array Slot), lv_has ls 4 [(0, .ref (a 0)), (3, .int x1_1)] → W p l e rm_X3_lookUp s m args below meth c s.heap [] 0 0 Q (F0 m 23 ls []))) (fun z3 xx5 hB4 kI6 kE7 => ?_) _ _ _ h2 K19 ls (lv_sub hl [1, 2, 3, 0] rfl)
  intro ls hl
  unfold f_X3_lookUp_L2 at hB4
  refine lv_iload_n hx hb dX3_lookUp_2 rfl (lv_at hl 3 rfl) ?_
  refine lv_aload_n hx hb dX3_lookUp_3 rfl (lv_at hl 0 rfl) ?_
  refine va_get (D := D) (ci := 3) (v := .int T.2.1) (C := RX3) (T := TX3) (N := 7) hx hb hts hiRX3 hown hK hP 0 rfl rfl 1 (by decide) hf17 (fun _ h9 => h9) rfl dX3_lookUp_4 ?_
  refine lv_icmp_ge (tgt := 45) hx hb dX3_lookUp_7 (by decide) (fun c15 => ?_) (fun c15 => ?_)
  · have hB4 := if_t hB4 c15
    exact kE7 _ (Option.some.inj hB4).symm ls (lv_sub hl [0, 1, 2] rfl)
  · have hB4 := if_f hB4 c15
    refine lv_aload_n hx hb dX3_lookUp_10 rfl (lv_at hl 0 rfl) ?_
    refine va_get (D := D) (ci := 3) (v := .ref (a 1)) (C := RX3) (T := TX3) (N := 7) hx hb hts hiRX3 hown hK hP 0 rfl rfl 0 (by decide) hf11 (fun _ h9 => h9) rfl dX3_lookUp_11 ?_
    refine lv_iload_n hx hb dX3_lookUp_14 rfl (lv_at hl 3 rfl) ?_
    obtain ⟨c16, hB4⟩ := gd_s hB4
    obtain ⟨c17, hB4⟩ := gd_s hB4
    refine va_aldq (D := D) hx hb hK hP 1 3 rfl rfl (ix_in c16) dX3_lookUp_15 ?_
    show W p l e rm_X3_lookUp s m args below meth c s.heap [] 0 0 Q (F0 m 16 ls [.ref (a (3 + 4 * (T.1 (z3 : Int32).toNatClampNeg)))])
    refine va_get (D := D) (ci := 0) (v := .int ((T.2.2.2.2.2.2 (T.1 (z3 : Int32).toNatClampNeg)).1)) (C := RX0) (T := TX0) (N := 4) hx hb hts hiRX0 hown hK (st_cell (of_decide_eq_true c17) (hP.sub (ws' := storeW k a T) [0, 1, 2, 3, 4, 5, 6, 7, 8, 9, 10, 11, 12, 13, 14, 15, 16, 17, 18, 19, 20, 21, 22, 23, 24, 25, 26, 27, 28, 29, 30] rfl)) 0 rfl rfl 0 (by decide) hf39 (fun _ h9 => h9) rfl dX3_lookUp_16 ?_
    refine lv_iload_n hx hb dX3_lookUp_19 rfl (lv_at hl 2 rfl) ?_
    refine lv_icmp_ne (tgt := 39) hx hb dX3_lookUp_20 (by decide) (fun c18 => ?_) (fun c18 => ?_)
    · have hB4 := if_f hB4 c18
      refine lv_iinc (v := (z3 + 1)) (lv' := [(3, .int (z3 + 1)), (0, .ref (a 0)), (1, .ref (b 0)), (2, .int y2)]) hx hb dX3_lookUp_39 hl (k := 3) rfl rfl (by decide) rfl (fun ls hl => ?_)
      refine lv_goto (tgt := 2) hx hb dX3_lookUp_42 (by decide) ?_
      exact kI6 _ (Option.some.inj hB4).symm ls (lv_sub hl [1, 2, 3, 0] rfl)
    · have hB4 := if_t hB4 c18
      exact kE7 _ (Option.some.inj hB4).symm ls (lv_sub hl [0, 3] rfl)
