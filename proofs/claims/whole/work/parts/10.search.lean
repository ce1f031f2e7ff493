/-! written by wip/whole/gen.py -/
abbrev rm_X2_readRow : Room := { frames := 1, cells := 0, slots := 0, locals := 40 }
def f_X2_readRow_L22 (S : SceneV) (y2 : Int32) (z : Int32 × SearchV) : Option ((Int32 × SearchV) ⊕ (SearchV)) := gd (ix y2 16) (if (S.2.1 (y2 : Int32).toNatClampNeg) < z.1 then (some (.inr z.2)) else (gd (ix ((y2 * 16) + z.1) 256) ((if ((((z.2).2.2.2.1).2.1) (((y2 * 16) + z.1) : Int32).toNatClampNeg) = (-1) then (some 0) else (gd (ix ((y2 * 16) + z.1) 256) (gd (ix ((((z.2).2.2.2.1).2.1) (((y2 * 16) + z.1) : Int32).toNatClampNeg) 8) (some ((((z.2).2.2.2.2.1) (((y2 * 16) + z.1) : Int32).toNatClampNeg) + (S.2.2.2.2.2.1 (((((z.2).2.2.2.1).2.1) (((y2 * 16) + z.1) : Int32).toNatClampNeg) : Int32).toNatClampNeg))))) : Option (Int32)).bind (fun x7 => gd (ix ((y2 * 16) + z.1) 256) (gd (ix y2 16) (gd (ix ((y2 * 16) + z.1) 256) (gd (ix y2 16) (gd (ix y2 16) (gd (ix ((y2 * 16) + z.1) 256) (gd (ix y2 16) (some (.inl ((z.1 + 1), ((z.2).1, (z.2).2.1, (z.2).2.2.1, (z.2).2.2.2.1, (z.2).2.2.2.2.1, (upd ((z.2).2.2.2.2.2.1) (((y2 * 16) + z.1) : Int32).toNatClampNeg x7), (upd ((z.2).2.2.2.2.2.2.1) (y2 : Int32).toNatClampNeg (if (((z.2).2.2.2.2.2.2.1) (y2 : Int32).toNatClampNeg) < (((z.2).2.2.2.2.1) (((y2 * 16) + z.1) : Int32).toNatClampNeg) then (((z.2).2.2.2.2.1) (((y2 * 16) + z.1) : Int32).toNatClampNeg) else (((z.2).2.2.2.2.2.2.1) (y2 : Int32).toNatClampNeg))), (upd ((z.2).2.2.2.2.2.2.2) (y2 : Int32).toNatClampNeg ((((z.2).2.2.2.2.2.2.2) (y2 : Int32).toNatClampNeg) + ((upd ((z.2).2.2.2.2.2.1) (((y2 * 16) + z.1) : Int32).toNatClampNeg x7) (((y2 * 16) + z.1) : Int32).toNatClampNeg)))))))))))))))))
def f_X2_readRow (Z : SearchV) (S : SceneV) (y2 : Int32) : Option (SearchV) := gd (ix y2 16) (gd (ix y2 16) (gd (ix y2 16) ((lp (f_X2_readRow_L22 S y2) fu ((S.1 (y2 : Int32).toNatClampNeg), (Z.1, Z.2.1, Z.2.2.1, Z.2.2.2.1, Z.2.2.2.2.1, Z.2.2.2.2.2.1, (upd Z.2.2.2.2.2.2.1 (y2 : Int32).toNatClampNeg (-1000000000)), (upd Z.2.2.2.2.2.2.2 (y2 : Int32).toNatClampNeg 0)))).bind (fun x4 => some x4))))
set_option maxHeartbeats 4000000 in
set_option maxRecDepth 100000 in
theorem c_X2_readRow (l : Launch) (D : va_G) (k : Nat → ClassId) (a : Nat → Nat) (b : Nat → Nat) (Z : SearchV) (S : SceneV) (y2 : Int32) (r : SearchV) (h : f_X2_readRow Z S y2 = some r) : Met l yX2_readRow wsX2_readRow rm_X2_readRow (va_Pc [.ref (a 0), .ref (b 0), .int y2] (MB D k (searchW k a Z ++ (sceneW k b S)))) (QM D (searchW k a Z ++ (sceneW k b S)) (searchW k a r ++ (sceneW k b S)) none) 0 0 (AD (searchW k a Z ++ (sceneW k b S))) := by
  refine met_Mv (by decide) rfl (Nat.le_of_ble_eq_true rfl) ?_
  intro p e s m below meth c Q args ls hx hb hml hown hts hP hK hN hD hl hQ
  have hl : lv_has ls 6 [(0, .ref (a 0)), (1, .ref (b 0)), (2, .int y2)] := hl
  have hown : s.vm.findClass RX2 = some m.cls := hown
  unfold f_X2_readRow at h
  have hiRX2 : ∀ w ∈ u_ws RX2 TX2 8, w ∈ wsX2_readRow := by decide +kernel
  have hiRX1 : ∀ w ∈ u_ws RX1 TX1 8, w ∈ wsX2_readRow := by decide +kernel
  have hiRX0 : ∀ w ∈ u_ws RX0 TX0 4, w ∈ wsX2_readRow := by decide +kernel
  have hf36 := hts (.fieldLink RX2 36 "RainCells$Search" "rowMost" "[I") (by decide +kernel)
  have hf39 := hts (.fieldLink RX2 39 "RainCells$Search" "rowFar" "[I") (by decide +kernel)
  have hf50 := hts (.fieldLink RX2 50 "RainCells$Scene" "rowFrom" "[I") (by decide +kernel)
  have hf55 := hts (.fieldLink RX2 55 "RainCells$Scene" "rowTo" "[I") (by decide +kernel)
  have hf25 := hts (.fieldLink RX2 25 "RainCells$Search" "cells" "LRainCells$Cells;") (by decide +kernel)
  have hf67 := hts (.fieldLink RX2 67 "RainCells$Cells" "owners" "[I") (by decide +kernel)
  have hf33 := hts (.fieldLink RX2 33 "RainCells$Search" "fars" "[I") (by decide +kernel)
  have hf29 := hts (.fieldLink RX2 29 "RainCells$Search" "lefts" "[I") (by decide +kernel)
  have hf70 := hts (.fieldLink RX2 70 "RainCells$Scene" "reaches" "[I") (by decide +kernel)
  generalize AD (searchW k a Z ++ (sceneW k b S)) = A0 at hD hQ
  have hS : va_S A0 s.heap s.heap [] := va_S.rf
  refine lv_aload_n hx hb dX2_readRow_0 rfl (lv_at hl 0 rfl) ?_
  refine va_get (D := D) (ci := 2) (v := .ref (a 7)) (C := RX2) (T := TX2) (N := 8) hx hb hts hiRX2 hown hK hP 0 rfl rfl 6 (by decide) hf36 (fun _ h9 => h9) rfl dX2_readRow_1 ?_
  refine lv_iload_n hx hb dX2_readRow_4 rfl (lv_at hl 2 rfl) ?_
  refine lv_ldc hx hb hown (hts (.constant RX2 66 (-1000000000)) (by decide +kernel)) dX2_readRow_5 ?_
  obtain ⟨c1, h⟩ := gd_s h
  refine va_iast (D := D) hx hb hK hP hD hS 7 0 rfl rfl (ix_in c1) dX2_readRow_7 (fun H locs hP hD hS => ?_)
  have hP : va_P D vwCl (searchW k a (Z.1, Z.2.1, Z.2.2.1, Z.2.2.2.1, Z.2.2.2.2.1, Z.2.2.2.2.2.1, (upd Z.2.2.2.2.2.2.1 (y2 : Int32).toNatClampNeg (-1000000000)), Z.2.2.2.2.2.2.2) ++ (sceneW k b S)) H := hP
  have hD : va_D A0 (searchW k a (Z.1, Z.2.1, Z.2.2.1, Z.2.2.2.1, Z.2.2.2.2.1, Z.2.2.2.2.2.1, (upd Z.2.2.2.2.2.2.1 (y2 : Int32).toNatClampNeg (-1000000000)), Z.2.2.2.2.2.2.2) ++ (sceneW k b S)) := hD
  refine lv_aload_n hx hb dX2_readRow_8 rfl (lv_at hl 0 rfl) ?_
  refine va_get (D := D) (ci := 2) (v := .ref (a 8)) (C := RX2) (T := TX2) (N := 8) hx hb hts hiRX2 hown hK hP 0 rfl rfl 7 (by decide) hf39 (fun _ h9 => h9) rfl dX2_readRow_9 ?_
  refine lv_iload_n hx hb dX2_readRow_12 rfl (lv_at hl 2 rfl) ?_
  refine lv_iconst (v := 0) hx hb dX2_readRow_13 (by decide) ?_
  obtain ⟨c2, h⟩ := gd_s h
  refine va_iast (D := D) hx hb hK hP hD hS 8 0 rfl rfl (ix_in c2) dX2_readRow_14 (fun H locs hP hD hS => ?_)
  have hP : va_P D vwCl (searchW k a (Z.1, Z.2.1, Z.2.2.1, Z.2.2.2.1, Z.2.2.2.2.1, Z.2.2.2.2.2.1, (upd Z.2.2.2.2.2.2.1 (y2 : Int32).toNatClampNeg (-1000000000)), (upd Z.2.2.2.2.2.2.2 (y2 : Int32).toNatClampNeg 0)) ++ (sceneW k b S)) H := hP
  have hD : va_D A0 (searchW k a (Z.1, Z.2.1, Z.2.2.1, Z.2.2.2.1, Z.2.2.2.2.1, Z.2.2.2.2.2.1, (upd Z.2.2.2.2.2.2.1 (y2 : Int32).toNatClampNeg (-1000000000)), (upd Z.2.2.2.2.2.2.2 (y2 : Int32).toNatClampNeg 0)) ++ (sceneW k b S)) := hD
  refine lv_aload_n hx hb dX2_readRow_15 rfl (lv_at hl 1 rfl) ?_
  refine va_get (D := D) (ci := 1) (v := .ref (b 1)) (C := RX1) (T := TX1) (N := 8) hx hb hts hiRX1 hown hK hP 9 rfl rfl 0 (by decide) hf50 (fun _ h9 => h9) rfl dX2_readRow_16 ?_
  refine lv_iload_n hx hb dX2_readRow_19 rfl (lv_at hl 2 rfl) ?_
  obtain ⟨c3, h⟩ := gd_s h
  refine va_iald (D := D) hx hb hK hP 10 0 rfl rfl (ix_in c3) dX2_readRow_20 ?_
  refine lv_istore_n (lv' := [(3, .int (S.1 (y2 : Int32).toNatClampNeg)), (0, .ref (a 0)), (1, .ref (b 0)), (2, .int y2)]) hx hb dX2_readRow_21 rfl hl (by decide) rfl (fun ls hl => ?_)
  obtain ⟨x4, h5, h⟩ := bd_s h
  have K27 : ∀ (ls : Array Slot) (H : Heap) (locs : List Loc), lv_has ls 6 [] → va_P D vwCl (searchW k a x4 ++ (sceneW k b S)) H → va_D A0 (searchW k a x4 ++ (sceneW k b S)) → va_S A0 s.heap H locs → W p l e rm_X2_readRow s m args below meth c H locs 0 0 Q (F0 m 128 ls []) := by
    intro ls H locs hl hP hD hS
    obtain rfl := Option.some.inj h
    exact hQ _ _ _ _ dX2_readRow_128 hP hS
  refine lp_W (P := fun z6 => ∀ (ls : Array Slot) (H : Heap) (locs : List Loc), lv_has ls 6 [(0, .ref (a 0)), (1, .ref (b 0)), (2, .int y2), (3, .int z6.1)] → va_P D vwCl (searchW k a z6.2 ++ (sceneW k b S)) H → va_D A0 (searchW k a z6.2 ++ (sceneW k b S)) → va_S A0 s.heap H locs → W p l e rm_X2_readRow s m args below meth c H locs 0 0 Q (F0 m 22 ls [])) (E := fun x4 => ∀ (ls : Array Slot) (H : Heap) (locs : List Loc), lv_has ls 6 [] → va_P D vwCl (searchW k a x4 ++ (sceneW k b S)) H → va_D A0 (searchW k a x4 ++ (sceneW k b S)) → va_S A0 s.heap H locs → W p l e rm_X2_readRow s m args below meth c H locs 0 0 Q (F0 m 128 ls [])) (fun z6 xx8 hB7 kI9 kE10 => ?_) _ _ _ h5 K27 ls H locs (lv_sub hl [1, 2, 3, 0] rfl) hP hD hS
  intro ls H locs hl hP hD hS
  unfold f_X2_readRow_L22 at hB7
  refine lv_iload_n hx hb dX2_readRow_22 rfl (lv_at hl 3 rfl) ?_
  refine lv_aload_n hx hb dX2_readRow_23 rfl (lv_at hl 1 rfl) ?_
  refine va_get (D := D) (ci := 1) (v := .ref (b 2)) (C := RX1) (T := TX1) (N := 8) hx hb hts hiRX1 hown hK hP 9 rfl rfl 1 (by decide) hf55 (fun _ h9 => h9) rfl dX2_readRow_24 ?_
  refine lv_iload_n hx hb dX2_readRow_27 rfl (lv_at hl 2 rfl) ?_
  obtain ⟨c11, hB7⟩ := gd_s hB7
  refine va_iald (D := D) hx hb hK hP 11 0 rfl rfl (ix_in c11) dX2_readRow_28 ?_
  refine lv_icmp_gt (tgt := 128) hx hb dX2_readRow_29 (by decide) (fun c12 => ?_) (fun c12 => ?_)
  · have hB7 := if_t hB7 c12
    exact kE10 _ (Option.some.inj hB7).symm ls H locs (lv_sub hl [] rfl) hP hD hS
  · have hB7 := if_f hB7 c12
    refine lv_iload_n hx hb dX2_readRow_32 rfl (lv_at hl 2 rfl) ?_
    refine lv_bipush (v := 16) hx hb dX2_readRow_33 (by decide) ?_
    refine lv_imul hx hb dX2_readRow_35 ?_
    refine lv_iload_n hx hb dX2_readRow_36 rfl (lv_at hl 3 rfl) ?_
    refine lv_iadd hx hb dX2_readRow_37 ?_
    refine lv_istore (lv' := [(4, .int ((y2 * 16) + z6.1)), (0, .ref (a 0)), (1, .ref (b 0)), (2, .int y2), (3, .int z6.1)]) hx hb dX2_readRow_38 hl (by decide) rfl (fun ls hl => ?_)
    refine lv_aload_n hx hb dX2_readRow_40 rfl (lv_at hl 1 rfl) ?_
    refine va_get (D := D) (ci := 2) (v := .ref (a 1)) (C := RX2) (T := TX2) (N := 8) hx hb hts hiRX2 hown hK hP 0 rfl rfl 3 (by decide) hf25 (fun _ h9 => h9) rfl dX2_readRow_41 ?_
    refine va_get (D := D) (ci := 0) (v := .ref (a 2)) (C := RX0) (T := TX0) (N := 4) hx hb hts hiRX0 hown hK hP 1 rfl rfl 1 (by decide) hf67 (fun _ h9 => h9) rfl dX2_readRow_44 ?_
    refine lv_iload hx hb dX2_readRow_47 (lv_at hl 0 rfl) ?_
    obtain ⟨c13, hB7⟩ := gd_s hB7
    refine va_iald (D := D) hx hb hK hP 2 0 rfl rfl (ix_in c13) dX2_readRow_49 ?_
    refine lv_istore (lv' := [(5, .int ((((z6.2).2.2.2.1).2.1) (((y2 * 16) + z6.1) : Int32).toNatClampNeg)), (4, .int ((y2 * 16) + z6.1)), (0, .ref (a 0)), (1, .ref (b 0)), (2, .int y2), (3, .int z6.1)]) hx hb dX2_readRow_50 hl (by decide) rfl (fun ls hl => ?_)
    refine lv_aload_n hx hb dX2_readRow_52 rfl (lv_at hl 2 rfl) ?_
    refine va_get (D := D) (ci := 2) (v := .ref (a 6)) (C := RX2) (T := TX2) (N := 8) hx hb hts hiRX2 hown hK hP 0 rfl rfl 5 (by decide) hf33 (fun _ h9 => h9) rfl dX2_readRow_53 ?_
    refine lv_iload hx hb dX2_readRow_56 (lv_at hl 1 rfl) ?_
    refine lv_iload hx hb dX2_readRow_58 (lv_at hl 0 rfl) ?_
    refine lv_iconst (v := (-1)) hx hb dX2_readRow_60 (by decide) ?_
    obtain ⟨x14, h15, hB7⟩ := bd_s hB7
    have K16 : W p l e rm_X2_readRow s m args below meth c H locs 0 0 Q (F0 m 83 ls [.int x14, .int ((y2 * 16) + z6.1), .ref (a 6)]) := by
      obtain ⟨c17, hB7⟩ := gd_s hB7
      refine va_iast (D := D) hx hb hK hP hD hS 6 0 rfl rfl (ix_in c17) dX2_readRow_83 (fun H locs hP hD hS => ?_)
      have hP : va_P D vwCl (searchW k a ((z6.2).1, (z6.2).2.1, (z6.2).2.2.1, (z6.2).2.2.2.1, (z6.2).2.2.2.2.1, (upd ((z6.2).2.2.2.2.2.1) (((y2 * 16) + z6.1) : Int32).toNatClampNeg x14), (z6.2).2.2.2.2.2.2) ++ (sceneW k b S)) H := hP
      have hD : va_D A0 (searchW k a ((z6.2).1, (z6.2).2.1, (z6.2).2.2.1, (z6.2).2.2.2.1, (z6.2).2.2.2.2.1, (upd ((z6.2).2.2.2.2.2.1) (((y2 * 16) + z6.1) : Int32).toNatClampNeg x14), (z6.2).2.2.2.2.2.2) ++ (sceneW k b S)) := hD
      refine lv_aload_n hx hb dX2_readRow_84 rfl (lv_at hl 2 rfl) ?_
      refine va_get (D := D) (ci := 2) (v := .ref (a 7)) (C := RX2) (T := TX2) (N := 8) hx hb hts hiRX2 hown hK hP 0 rfl rfl 6 (by decide) hf36 (fun _ h9 => h9) rfl dX2_readRow_85 ?_
      refine lv_iload_n hx hb dX2_readRow_88 rfl (lv_at hl 4 rfl) ?_
      refine lv_aload_n hx hb dX2_readRow_89 rfl (lv_at hl 2 rfl) ?_
      refine va_get (D := D) (ci := 2) (v := .ref (a 7)) (C := RX2) (T := TX2) (N := 8) hx hb hts hiRX2 hown hK hP 0 rfl rfl 6 (by decide) hf36 (fun _ h9 => h9) rfl dX2_readRow_90 ?_
      refine lv_iload_n hx hb dX2_readRow_93 rfl (lv_at hl 4 rfl) ?_
      obtain ⟨c18, hB7⟩ := gd_s hB7
      refine va_iald (D := D) hx hb hK hP 7 0 rfl rfl (ix_in c18) dX2_readRow_94 ?_
      refine lv_aload_n hx hb dX2_readRow_95 rfl (lv_at hl 2 rfl) ?_
      refine va_get (D := D) (ci := 2) (v := .ref (a 5)) (C := RX2) (T := TX2) (N := 8) hx hb hts hiRX2 hown hK hP 0 rfl rfl 4 (by decide) hf29 (fun _ h9 => h9) rfl dX2_readRow_96 ?_
      refine lv_iload hx hb dX2_readRow_99 (lv_at hl 1 rfl) ?_
      obtain ⟨c19, hB7⟩ := gd_s hB7
      refine va_iald (D := D) hx hb hK hP 5 0 rfl rfl (ix_in c19) dX2_readRow_101 ?_
      refine va_mmax hx hb (hml.trans hl.1.symm) hown (hts (.methodLink RX2 73 Lib.Math.max.name) (by decide +kernel)) (hts (.static Lib.Math.max.name) (by decide +kernel)) (hts (.initialized "java/lang/Math") (by decide +kernel)) (hts (.code Lib.Math.max.name Lib.Math.max.code 2 (some .int)) (by decide +kernel)) (Nat.le_of_ble_eq_true rfl) (Nat.le_of_ble_eq_true rfl) (Nat.zero_le _) (Nat.zero_le _) dX2_readRow_102 ?_
      obtain ⟨c20, hB7⟩ := gd_s hB7
      refine va_iast (D := D) hx hb hK hP hD hS 7 0 rfl rfl (ix_in c20) dX2_readRow_105 (fun H locs hP hD hS => ?_)
      have hP : va_P D vwCl (searchW k a ((z6.2).1, (z6.2).2.1, (z6.2).2.2.1, (z6.2).2.2.2.1, (z6.2).2.2.2.2.1, (upd ((z6.2).2.2.2.2.2.1) (((y2 * 16) + z6.1) : Int32).toNatClampNeg x14), (upd ((z6.2).2.2.2.2.2.2.1) (y2 : Int32).toNatClampNeg (if (((z6.2).2.2.2.2.2.2.1) (y2 : Int32).toNatClampNeg) < (((z6.2).2.2.2.2.1) (((y2 * 16) + z6.1) : Int32).toNatClampNeg) then (((z6.2).2.2.2.2.1) (((y2 * 16) + z6.1) : Int32).toNatClampNeg) else (((z6.2).2.2.2.2.2.2.1) (y2 : Int32).toNatClampNeg))), (z6.2).2.2.2.2.2.2.2) ++ (sceneW k b S)) H := hP
      have hD : va_D A0 (searchW k a ((z6.2).1, (z6.2).2.1, (z6.2).2.2.1, (z6.2).2.2.2.1, (z6.2).2.2.2.2.1, (upd ((z6.2).2.2.2.2.2.1) (((y2 * 16) + z6.1) : Int32).toNatClampNeg x14), (upd ((z6.2).2.2.2.2.2.2.1) (y2 : Int32).toNatClampNeg (if (((z6.2).2.2.2.2.2.2.1) (y2 : Int32).toNatClampNeg) < (((z6.2).2.2.2.2.1) (((y2 * 16) + z6.1) : Int32).toNatClampNeg) then (((z6.2).2.2.2.2.1) (((y2 * 16) + z6.1) : Int32).toNatClampNeg) else (((z6.2).2.2.2.2.2.2.1) (y2 : Int32).toNatClampNeg))), (z6.2).2.2.2.2.2.2.2) ++ (sceneW k b S)) := hD
      refine lv_aload_n hx hb dX2_readRow_106 rfl (lv_at hl 2 rfl) ?_
      refine va_get (D := D) (ci := 2) (v := .ref (a 8)) (C := RX2) (T := TX2) (N := 8) hx hb hts hiRX2 hown hK hP 0 rfl rfl 7 (by decide) hf39 (fun _ h9 => h9) rfl dX2_readRow_107 ?_
      refine lv_iload_n hx hb dX2_readRow_110 rfl (lv_at hl 4 rfl) ?_
      refine lv_dup2_11 hx hb dX2_readRow_111 rfl rfl ?_
      obtain ⟨c21, hB7⟩ := gd_s hB7
      refine va_iald (D := D) hx hb hK hP 8 0 rfl rfl (ix_in c21) dX2_readRow_112 ?_
      refine lv_aload_n hx hb dX2_readRow_113 rfl (lv_at hl 2 rfl) ?_
      refine va_get (D := D) (ci := 2) (v := .ref (a 6)) (C := RX2) (T := TX2) (N := 8) hx hb hts hiRX2 hown hK hP 0 rfl rfl 5 (by decide) hf33 (fun _ h9 => h9) rfl dX2_readRow_114 ?_
      refine lv_iload hx hb dX2_readRow_117 (lv_at hl 1 rfl) ?_
      obtain ⟨c22, hB7⟩ := gd_s hB7
      refine va_iald (D := D) hx hb hK hP 6 0 rfl rfl (ix_in c22) dX2_readRow_119 ?_
      refine lv_iadd hx hb dX2_readRow_120 ?_
      obtain ⟨c23, hB7⟩ := gd_s hB7
      refine va_iast (D := D) hx hb hK hP hD hS 8 0 rfl rfl (ix_in c23) dX2_readRow_121 (fun H locs hP hD hS => ?_)
      have hP : va_P D vwCl (searchW k a ((z6.2).1, (z6.2).2.1, (z6.2).2.2.1, (z6.2).2.2.2.1, (z6.2).2.2.2.2.1, (upd ((z6.2).2.2.2.2.2.1) (((y2 * 16) + z6.1) : Int32).toNatClampNeg x14), (upd ((z6.2).2.2.2.2.2.2.1) (y2 : Int32).toNatClampNeg (if (((z6.2).2.2.2.2.2.2.1) (y2 : Int32).toNatClampNeg) < (((z6.2).2.2.2.2.1) (((y2 * 16) + z6.1) : Int32).toNatClampNeg) then (((z6.2).2.2.2.2.1) (((y2 * 16) + z6.1) : Int32).toNatClampNeg) else (((z6.2).2.2.2.2.2.2.1) (y2 : Int32).toNatClampNeg))), (upd ((z6.2).2.2.2.2.2.2.2) (y2 : Int32).toNatClampNeg ((((z6.2).2.2.2.2.2.2.2) (y2 : Int32).toNatClampNeg) + ((upd ((z6.2).2.2.2.2.2.1) (((y2 * 16) + z6.1) : Int32).toNatClampNeg x14) (((y2 * 16) + z6.1) : Int32).toNatClampNeg)))) ++ (sceneW k b S)) H := hP
      have hD : va_D A0 (searchW k a ((z6.2).1, (z6.2).2.1, (z6.2).2.2.1, (z6.2).2.2.2.1, (z6.2).2.2.2.2.1, (upd ((z6.2).2.2.2.2.2.1) (((y2 * 16) + z6.1) : Int32).toNatClampNeg x14), (upd ((z6.2).2.2.2.2.2.2.1) (y2 : Int32).toNatClampNeg (if (((z6.2).2.2.2.2.2.2.1) (y2 : Int32).toNatClampNeg) < (((z6.2).2.2.2.2.1) (((y2 * 16) + z6.1) : Int32).toNatClampNeg) then (((z6.2).2.2.2.2.1) (((y2 * 16) + z6.1) : Int32).toNatClampNeg) else (((z6.2).2.2.2.2.2.2.1) (y2 : Int32).toNatClampNeg))), (upd ((z6.2).2.2.2.2.2.2.2) (y2 : Int32).toNatClampNeg ((((z6.2).2.2.2.2.2.2.2) (y2 : Int32).toNatClampNeg) + ((upd ((z6.2).2.2.2.2.2.1) (((y2 * 16) + z6.1) : Int32).toNatClampNeg x14) (((y2 * 16) + z6.1) : Int32).toNatClampNeg)))) ++ (sceneW k b S)) := hD
      refine lv_iinc (v := (z6.1 + 1)) (lv' := [(3, .int (z6.1 + 1)), (5, .int ((((z6.2).2.2.2.1).2.1) (((y2 * 16) + z6.1) : Int32).toNatClampNeg)), (4, .int ((y2 * 16) + z6.1)), (0, .ref (a 0)), (1, .ref (b 0)), (2, .int y2)]) hx hb dX2_readRow_122 hl (k := 5) rfl rfl (by decide) rfl (fun ls hl => ?_)
      refine lv_goto (tgt := 22) hx hb dX2_readRow_125 (by decide) ?_
      exact kI9 _ (Option.some.inj hB7).symm ls H locs (lv_sub hl [3, 4, 5, 0] rfl) hP hD hS
    refine lv_icmp_ne (tgt := 68) hx hb dX2_readRow_61 (by decide) (fun c24 => ?_) (fun c24 => ?_)
    · have h15 := if_f h15 c24
      refine lv_aload_n hx hb dX2_readRow_68 rfl (lv_at hl 2 rfl) ?_
      refine va_get (D := D) (ci := 2) (v := .ref (a 5)) (C := RX2) (T := TX2) (N := 8) hx hb hts hiRX2 hown hK hP 0 rfl rfl 4 (by decide) hf29 (fun _ h9 => h9) rfl dX2_readRow_69 ?_
      refine lv_iload hx hb dX2_readRow_72 (lv_at hl 1 rfl) ?_
      obtain ⟨c25, h15⟩ := gd_s h15
      refine va_iald (D := D) hx hb hK hP 5 0 rfl rfl (ix_in c25) dX2_readRow_74 ?_
      refine lv_aload_n hx hb dX2_readRow_75 rfl (lv_at hl 3 rfl) ?_
      refine va_get (D := D) (ci := 1) (v := .ref (b 5)) (C := RX1) (T := TX1) (N := 8) hx hb hts hiRX1 hown hK hP 9 rfl rfl 5 (by decide) hf70 (fun _ h9 => h9) rfl dX2_readRow_76 ?_
      refine lv_iload hx hb dX2_readRow_79 (lv_at hl 0 rfl) ?_
      obtain ⟨c26, h15⟩ := gd_s h15
      refine va_iald (D := D) hx hb hK hP 14 0 rfl rfl (ix_in c26) dX2_readRow_81 ?_
      refine lv_iadd hx hb dX2_readRow_82 ?_
      obtain rfl := Option.some.inj h15
      exact K16
    · have h15 := if_t h15 c24
      refine lv_iconst (v := 0) hx hb dX2_readRow_64 (by decide) ?_
      refine lv_goto (tgt := 83) hx hb dX2_readRow_65 (by decide) ?_
      obtain rfl := Option.some.inj h15
      exact K16

abbrev rm_X2_farOfRow : Room := { frames := 0, cells := 0, slots := 0, locals := 0 }
def f_X2_farOfRow_L29 (Z : SearchV) (S : SceneV) (y2 : Int32) (y3 : Int32) (y4 : Int32) (z : Int32 × Int32) : Option ((Int32 × Int32) ⊕ (Int32)) := gd (ix y2 16) (if (S.2.1 (y2 : Int32).toNatClampNeg) < z.2 then (some (.inr z.1)) else (gd (ix ((y2 * 16) + z.2) 256) ((if (Z.2.2.2.2.1 (((y2 * 16) + z.2) : Int32).toNatClampNeg) ≤ (((z.2 - y3) * (z.2 - y3)) + y4) then (gd (ix ((y2 * 16) + z.2) 256) (some (Z.2.2.2.2.2.1 (((y2 * 16) + z.2) : Int32).toNatClampNeg))) else (some (((z.2 - y3) * (z.2 - y3)) + y4)) : Option (Int32)).bind (fun x7 => some (.inl ((z.1 + x7), (z.2 + 1)))))))
def f_X2_farOfRow (Z : SearchV) (S : SceneV) (y2 : Int32) (y3 : Int32) (y4 : Int32) : Option (Int32) := gd (ix y2 16) (if y4 < (Z.2.2.2.2.2.2.1 (y2 : Int32).toNatClampNeg) then (gd (ix y2 16) ((lp (f_X2_farOfRow_L29 Z S y2 y3 y4) fu (0, (S.1 (y2 : Int32).toNatClampNeg))).bind (fun x4 => some x4))) else (gd (ix y2 16) (some (Z.2.2.2.2.2.2.2 (y2 : Int32).toNatClampNeg))))
set_option maxHeartbeats 4000000 in
set_option maxRecDepth 100000 in
theorem c_X2_farOfRow (l : Launch) (D : va_G) (k : Nat → ClassId) (a : Nat → Nat) (b : Nat → Nat) (Z : SearchV) (S : SceneV) (y2 : Int32) (y3 : Int32) (y4 : Int32) (r : Int32) (h : f_X2_farOfRow Z S y2 y3 y4 = some r) : Met l yX2_farOfRow wsX2_farOfRow rm_X2_farOfRow (va_Pc [.ref (a 0), .ref (b 0), .int y2, .int y3, .int y4] (RB D k (searchW k a Z ++ (sceneW k b S)))) (QR (some (.int r))) 0 0 (fun _ => False) := by
  refine met_Ri (by decide) rfl (Nat.le_of_ble_eq_true rfl) ?_
  intro p e s m below meth c Q args ls hx hb hml hown hts hP hK hN hl hQ
  have hl : lv_has ls 10 [(0, .ref (a 0)), (1, .ref (b 0)), (2, .int y2), (3, .int y3), (4, .int y4)] := hl
  have hown : s.vm.findClass RX2 = some m.cls := hown
  unfold f_X2_farOfRow at h
  have hiRX2 : ∀ w ∈ u_ws RX2 TX2 8, w ∈ wsX2_farOfRow := by decide +kernel
  have hiRX1 : ∀ w ∈ u_ws RX1 TX1 8, w ∈ wsX2_farOfRow := by decide +kernel
  have hf36 := hts (.fieldLink RX2 36 "RainCells$Search" "rowMost" "[I") (by decide +kernel)
  have hf50 := hts (.fieldLink RX2 50 "RainCells$Scene" "rowFrom" "[I") (by decide +kernel)
  have hf55 := hts (.fieldLink RX2 55 "RainCells$Scene" "rowTo" "[I") (by decide +kernel)
  have hf29 := hts (.fieldLink RX2 29 "RainCells$Search" "lefts" "[I") (by decide +kernel)
  have hf33 := hts (.fieldLink RX2 33 "RainCells$Search" "fars" "[I") (by decide +kernel)
  have hf39 := hts (.fieldLink RX2 39 "RainCells$Search" "rowFar" "[I") (by decide +kernel)
  refine lv_iload hx hb dX2_farOfRow_0 (lv_at hl 4 rfl) ?_
  refine lv_aload_n hx hb dX2_farOfRow_2 rfl (lv_at hl 0 rfl) ?_
  refine va_get (D := D) (ci := 2) (v := .ref (a 7)) (C := RX2) (T := TX2) (N := 8) hx hb hts hiRX2 hown hK hP 0 rfl rfl 6 (by decide) hf36 (fun _ h9 => h9) rfl dX2_farOfRow_3 ?_
  refine lv_iload_n hx hb dX2_farOfRow_6 rfl (lv_at hl 2 rfl) ?_
  obtain ⟨c1, h⟩ := gd_s h
  refine va_iald (D := D) hx hb hK hP 7 0 rfl rfl (ix_in c1) dX2_farOfRow_7 ?_
  refine lv_icmp_lt (tgt := 18) hx hb dX2_farOfRow_8 (by decide) (fun c2 => ?_) (fun c2 => ?_)
  · have h := if_t h c2
    refine lv_iconst (v := 0) hx hb dX2_farOfRow_18 (by decide) ?_
    refine lv_istore (lv' := [(5, .int 0), (0, .ref (a 0)), (1, .ref (b 0)), (2, .int y2), (3, .int y3), (4, .int y4)]) hx hb dX2_farOfRow_19 hl (by decide) rfl (fun ls hl => ?_)
    refine lv_aload_n hx hb dX2_farOfRow_21 rfl (lv_at hl 2 rfl) ?_
    refine va_get (D := D) (ci := 1) (v := .ref (b 1)) (C := RX1) (T := TX1) (N := 8) hx hb hts hiRX1 hown hK hP 9 rfl rfl 0 (by decide) hf50 (fun _ h9 => h9) rfl dX2_farOfRow_22 ?_
    refine lv_iload_n hx hb dX2_farOfRow_25 rfl (lv_at hl 3 rfl) ?_
    obtain ⟨c3, h⟩ := gd_s h
    refine va_iald (D := D) hx hb hK hP 10 0 rfl rfl (ix_in c3) dX2_farOfRow_26 ?_
    refine lv_istore (lv' := [(6, .int (S.1 (y2 : Int32).toNatClampNeg)), (5, .int 0), (0, .ref (a 0)), (1, .ref (b 0)), (2, .int y2), (3, .int y3), (4, .int y4)]) hx hb dX2_farOfRow_27 hl (by decide) rfl (fun ls hl => ?_)
    obtain ⟨x4, h5, h⟩ := bd_s h
    have K19 : ∀ (ls : Array Slot), lv_has ls 10 [(5, .int x4)] → W p l e rm_X2_farOfRow s m args below meth c s.heap [] 0 0 Q (F0 m 100 ls []) := by
      intro ls hl
      refine lv_iload hx hb dX2_farOfRow_100 (lv_at hl 0 rfl) ?_
      obtain rfl := Option.some.inj h
      exact hQ _ _ dX2_farOfRow_102
    refine lp_W (P := fun z6 => ∀ (ls : Array Slot), lv_has ls 10 [(0, .ref (a 0)), (1, .ref (b 0)), (2, .int y2), (3, .int y3), (4, .int y4), (5, .int z6.1), (6, .int z6.2)] → W p l e rm_X2_farOfRow s m args below meth c s.heap [] 0 0 Q (F0 m 29 ls [])) (E := fun x4 => ∀ (ls : Array Slot), lv_has ls 10 [(5, .int x4)] → W p l e rm_X2_farOfRow s m args below meth c s.heap [] 0 0 Q (F0 m 100 ls [])) (fun z6 xx8 hB7 kI9 kE10 => ?_) _ _ _ h5 K19 ls (lv_sub hl [2, 3, 4, 5, 6, 1, 0] rfl)
    intro ls hl
    unfold f_X2_farOfRow_L29 at hB7
    refine lv_iload hx hb dX2_farOfRow_29 (lv_at hl 6 rfl) ?_
    refine lv_aload_n hx hb dX2_farOfRow_31 rfl (lv_at hl 1 rfl) ?_
    refine va_get (D := D) (ci := 1) (v := .ref (b 2)) (C := RX1) (T := TX1) (N := 8) hx hb hts hiRX1 hown hK hP 9 rfl rfl 1 (by decide) hf55 (fun _ h9 => h9) rfl dX2_farOfRow_32 ?_
    refine lv_iload_n hx hb dX2_farOfRow_35 rfl (lv_at hl 2 rfl) ?_
    obtain ⟨c11, hB7⟩ := gd_s hB7
    refine va_iald (D := D) hx hb hK hP 11 0 rfl rfl (ix_in c11) dX2_farOfRow_36 ?_
    refine lv_icmp_gt (tgt := 100) hx hb dX2_farOfRow_37 (by decide) (fun c12 => ?_) (fun c12 => ?_)
    · have hB7 := if_t hB7 c12
      exact kE10 _ (Option.some.inj hB7).symm ls (lv_sub hl [5] rfl)
    · have hB7 := if_f hB7 c12
      refine lv_iload_n hx hb dX2_farOfRow_40 rfl (lv_at hl 2 rfl) ?_
      refine lv_bipush (v := 16) hx hb dX2_farOfRow_41 (by decide) ?_
      refine lv_imul hx hb dX2_farOfRow_43 ?_
      refine lv_iload hx hb dX2_farOfRow_44 (lv_at hl 6 rfl) ?_
      refine lv_iadd hx hb dX2_farOfRow_46 ?_
      refine lv_istore (lv' := [(7, .int ((y2 * 16) + z6.2)), (0, .ref (a 0)), (1, .ref (b 0)), (2, .int y2), (3, .int y3), (4, .int y4), (5, .int z6.1), (6, .int z6.2)]) hx hb dX2_farOfRow_47 hl (by decide) rfl (fun ls hl => ?_)
      refine lv_iload hx hb dX2_farOfRow_49 (lv_at hl 7 rfl) ?_
      refine lv_iload_n hx hb dX2_farOfRow_51 rfl (lv_at hl 4 rfl) ?_
      refine lv_isub hx hb dX2_farOfRow_52 ?_
      refine lv_istore (lv' := [(8, .int (z6.2 - y3)), (7, .int ((y2 * 16) + z6.2)), (0, .ref (a 0)), (1, .ref (b 0)), (2, .int y2), (3, .int y3), (4, .int y4), (5, .int z6.1), (6, .int z6.2)]) hx hb dX2_farOfRow_53 hl (by decide) rfl (fun ls hl => ?_)
      refine lv_iload hx hb dX2_farOfRow_55 (lv_at hl 0 rfl) ?_
      refine lv_iload hx hb dX2_farOfRow_57 (lv_at hl 0 rfl) ?_
      refine lv_imul hx hb dX2_farOfRow_59 ?_
      refine lv_iload hx hb dX2_farOfRow_60 (lv_at hl 6 rfl) ?_
      refine lv_iadd hx hb dX2_farOfRow_62 ?_
      refine lv_istore (lv' := [(9, .int (((z6.2 - y3) * (z6.2 - y3)) + y4)), (8, .int (z6.2 - y3)), (7, .int ((y2 * 16) + z6.2)), (0, .ref (a 0)), (1, .ref (b 0)), (2, .int y2), (3, .int y3), (4, .int y4), (5, .int z6.1), (6, .int z6.2)]) hx hb dX2_farOfRow_63 hl (by decide) rfl (fun ls hl => ?_)
      refine lv_iload hx hb dX2_farOfRow_65 (lv_at hl 8 rfl) ?_
      refine lv_iload hx hb dX2_farOfRow_67 (lv_at hl 0 rfl) ?_
      refine lv_aload_n hx hb dX2_farOfRow_69 rfl (lv_at hl 3 rfl) ?_
      refine va_get (D := D) (ci := 2) (v := .ref (a 5)) (C := RX2) (T := TX2) (N := 8) hx hb hts hiRX2 hown hK hP 0 rfl rfl 4 (by decide) hf29 (fun _ h9 => h9) rfl dX2_farOfRow_70 ?_
      refine lv_iload hx hb dX2_farOfRow_73 (lv_at hl 2 rfl) ?_
      obtain ⟨c13, hB7⟩ := gd_s hB7
      refine va_iald (D := D) hx hb hK hP 5 0 rfl rfl (ix_in c13) dX2_farOfRow_75 ?_
      obtain ⟨x14, h15, hB7⟩ := bd_s hB7
      have K16 : W p l e rm_X2_farOfRow s m args below meth c s.heap [] 0 0 Q (F0 m 91 ls [.int x14, .int z6.1]) := by
        refine lv_iadd hx hb dX2_farOfRow_91 ?_
        refine lv_istore (lv' := [(5, .int (z6.1 + x14)), (9, .int (((z6.2 - y3) * (z6.2 - y3)) + y4)), (8, .int (z6.2 - y3)), (7, .int ((y2 * 16) + z6.2)), (0, .ref (a 0)), (1, .ref (b 0)), (2, .int y2), (3, .int y3), (4, .int y4), (6, .int z6.2)]) hx hb dX2_farOfRow_92 hl (by decide) rfl (fun ls hl => ?_)
        refine lv_iinc (v := (z6.2 + 1)) (lv' := [(6, .int (z6.2 + 1)), (5, .int (z6.1 + x14)), (9, .int (((z6.2 - y3) * (z6.2 - y3)) + y4)), (8, .int (z6.2 - y3)), (7, .int ((y2 * 16) + z6.2)), (0, .ref (a 0)), (1, .ref (b 0)), (2, .int y2), (3, .int y3), (4, .int y4)]) hx hb dX2_farOfRow_94 hl (k := 9) rfl rfl (by decide) rfl (fun ls hl => ?_)
        refine lv_goto (tgt := 29) hx hb dX2_farOfRow_97 (by decide) ?_
        exact kI9 _ (Option.some.inj hB7).symm ls (lv_sub hl [5, 6, 7, 8, 9, 1, 0] rfl)
      refine lv_icmp_ge (tgt := 84) hx hb dX2_farOfRow_76 (by decide) (fun c17 => ?_) (fun c17 => ?_)
      · have h15 := if_t h15 c17
        refine lv_aload_n hx hb dX2_farOfRow_84 rfl (lv_at hl 3 rfl) ?_
        refine va_get (D := D) (ci := 2) (v := .ref (a 6)) (C := RX2) (T := TX2) (N := 8) hx hb hts hiRX2 hown hK hP 0 rfl rfl 5 (by decide) hf33 (fun _ h9 => h9) rfl dX2_farOfRow_85 ?_
        refine lv_iload hx hb dX2_farOfRow_88 (lv_at hl 2 rfl) ?_
        obtain ⟨c18, h15⟩ := gd_s h15
        refine va_iald (D := D) hx hb hK hP 6 0 rfl rfl (ix_in c18) dX2_farOfRow_90 ?_
        obtain rfl := Option.some.inj h15
        exact K16
      · have h15 := if_f h15 c17
        refine lv_iload hx hb dX2_farOfRow_79 (lv_at hl 0 rfl) ?_
        refine lv_goto (tgt := 91) hx hb dX2_farOfRow_81 (by decide) ?_
        obtain rfl := Option.some.inj h15
        exact K16
  · have h := if_f h c2
    refine lv_aload_n hx hb dX2_farOfRow_11 rfl (lv_at hl 0 rfl) ?_
    refine va_get (D := D) (ci := 2) (v := .ref (a 8)) (C := RX2) (T := TX2) (N := 8) hx hb hts hiRX2 hown hK hP 0 rfl rfl 7 (by decide) hf39 (fun _ h9 => h9) rfl dX2_farOfRow_12 ?_
    refine lv_iload_n hx hb dX2_farOfRow_15 rfl (lv_at hl 2 rfl) ?_
    obtain ⟨c20, h⟩ := gd_s h
    refine va_iald (D := D) hx hb hK hP 8 0 rfl rfl (ix_in c20) dX2_farOfRow_16 ?_
    obtain rfl := Option.some.inj h
    exact hQ _ _ dX2_farOfRow_17

abbrev rm_X2_tryAt : Room := { frames := 1, cells := 0, slots := 0, locals := 29 }
def f_X2_tryAt_L6 (Z : SearchV) (S : SceneV) (y2 : Int32) (y3 : Int32) (z : Int32 × Int32) : Option ((Int32 × Int32) ⊕ (Int32)) := if 16 ≤ z.2 then (some (.inr z.1)) else (if Z.1 ≤ z.1 then (some (.inr z.1)) else ((f_X2_farOfRow Z S z.2 y2 ((z.2 - y3) * (z.2 - y3))).bind (fun x3 => some (.inl ((z.1 + x3), (z.2 + 1))))))
def f_X2_tryAt (Z : SearchV) (S : SceneV) (y2 : Int32) (y3 : Int32) : Option (SearchV) := (lp (f_X2_tryAt_L6 Z S y2 y3) fu (0, 0)).bind (fun x1 => if Z.1 ≤ x1 then (some Z) else (some (x1, y2, y3, Z.2.2.2)))
set_option maxHeartbeats 4000000 in
set_option maxRecDepth 100000 in
theorem c_X2_tryAt (l : Launch) (D : va_G) (k : Nat → ClassId) (a : Nat → Nat) (b : Nat → Nat) (Z : SearchV) (S : SceneV) (y2 : Int32) (y3 : Int32) (r : SearchV) (h : f_X2_tryAt Z S y2 y3 = some r) : Met l yX2_tryAt wsX2_tryAt rm_X2_tryAt (va_Pc [.ref (a 0), .ref (b 0), .int y2, .int y3] (MB D k (searchW k a Z ++ (sceneW k b S)))) (QM D (searchW k a Z ++ (sceneW k b S)) (searchW k a r ++ (sceneW k b S)) none) 0 0 (AD (searchW k a Z ++ (sceneW k b S))) := by
  refine met_Mv (by decide) rfl (Nat.le_of_ble_eq_true rfl) ?_
  intro p e s m below meth c Q args ls hx hb hml hown hts hP hK hN hD hl hQ
  have hl : lv_has ls 7 [(0, .ref (a 0)), (1, .ref (b 0)), (2, .int y2), (3, .int y3)] := hl
  have hown : s.vm.findClass RX2 = some m.cls := hown
  unfold f_X2_tryAt at h
  have hiRX2 : ∀ w ∈ u_ws RX2 TX2 8, w ∈ wsX2_tryAt := by decide +kernel
  have hf10 := hts (.fieldLink RX2 10 "RainCells$Search" "least" "I") (by decide +kernel)
  have hf16 := hts (.fieldLink RX2 16 "RainCells$Search" "leastX" "I") (by decide +kernel)
  have hf19 := hts (.fieldLink RX2 19 "RainCells$Search" "leastY" "I") (by decide +kernel)
  generalize AD (searchW k a Z ++ (sceneW k b S)) = A0 at hD hQ
  have hS : va_S A0 s.heap s.heap [] := va_S.rf
  refine lv_iconst (v := 0) hx hb dX2_tryAt_0 (by decide) ?_
  refine lv_istore (lv' := [(4, .int 0), (0, .ref (a 0)), (1, .ref (b 0)), (2, .int y2), (3, .int y3)]) hx hb dX2_tryAt_1 hl (by decide) rfl (fun ls hl => ?_)
  refine lv_iconst (v := 0) hx hb dX2_tryAt_3 (by decide) ?_
  refine lv_istore (lv' := [(5, .int 0), (4, .int 0), (0, .ref (a 0)), (1, .ref (b 0)), (2, .int y2), (3, .int y3)]) hx hb dX2_tryAt_4 hl (by decide) rfl (fun ls hl => ?_)
  obtain ⟨x1, h2, h⟩ := bd_s h
  have K13 : ∀ (ls : Array Slot), lv_has ls 7 [(0, .ref (a 0)), (2, .int y2), (3, .int y3), (4, .int x1)] → W p l e rm_X2_tryAt s m args below meth c s.heap [] 0 0 Q (F0 m 52 ls []) := by
    intro ls hl
    refine lv_iload hx hb dX2_tryAt_52 (lv_at hl 3 rfl) ?_
    refine lv_aload_n hx hb dX2_tryAt_54 rfl (lv_at hl 0 rfl) ?_
    refine va_get (D := D) (ci := 2) (v := .int Z.1) (C := RX2) (T := TX2) (N := 8) hx hb hts hiRX2 hown hK hP 0 rfl rfl 0 (by decide) hf10 (fun _ h9 => h9) rfl dX2_tryAt_55 ?_
    refine lv_icmp_ge (tgt := 77) hx hb dX2_tryAt_58 (by decide) (fun c8 => ?_) (fun c8 => ?_)
    · have h := if_t h c8
      obtain rfl := Option.some.inj h
      exact hQ _ _ _ _ dX2_tryAt_77 hP hS
    · have h := if_f h c8
      refine lv_aload_n hx hb dX2_tryAt_61 rfl (lv_at hl 0 rfl) ?_
      refine lv_iload hx hb dX2_tryAt_62 (lv_at hl 3 rfl) ?_
      refine va_put (D := D) (ci := 2) (v := .int x1) (ty := .int) (C := RX2) (T := TX2) (N := 8) hx hb hts hiRX2 tyX2 tyX2_ok nmX2 hown hK hP hD hS 0 rfl rfl 0 (by decide) hf10 (fun _ h9 => h9) rfl (by decide +kernel) rfl rfl (Nat.le_of_ble_eq_true rfl) dX2_tryAt_64 (fun H locs hP hD hS => ?_)
      have hP : va_P D vwCl (searchW k a (x1, Z.2) ++ (sceneW k b S)) H := hP
      have hD : va_D A0 (searchW k a (x1, Z.2) ++ (sceneW k b S)) := hD
      refine lv_aload_n hx hb dX2_tryAt_67 rfl (lv_at hl 0 rfl) ?_
      refine lv_iload_n hx hb dX2_tryAt_68 rfl (lv_at hl 1 rfl) ?_
      refine va_put (D := D) (ci := 2) (v := .int y2) (ty := .int) (C := RX2) (T := TX2) (N := 8) hx hb hts hiRX2 tyX2 tyX2_ok nmX2 hown hK hP hD hS 0 rfl rfl 1 (by decide) hf16 (fun _ h9 => h9) rfl (by decide +kernel) rfl rfl (Nat.le_of_ble_eq_true rfl) dX2_tryAt_69 (fun H locs hP hD hS => ?_)
      have hP : va_P D vwCl (searchW k a (x1, y2, Z.2.2) ++ (sceneW k b S)) H := hP
      have hD : va_D A0 (searchW k a (x1, y2, Z.2.2) ++ (sceneW k b S)) := hD
      refine lv_aload_n hx hb dX2_tryAt_72 rfl (lv_at hl 0 rfl) ?_
      refine lv_iload_n hx hb dX2_tryAt_73 rfl (lv_at hl 2 rfl) ?_
      refine va_put (D := D) (ci := 2) (v := .int y3) (ty := .int) (C := RX2) (T := TX2) (N := 8) hx hb hts hiRX2 tyX2 tyX2_ok nmX2 hown hK hP hD hS 0 rfl rfl 2 (by decide) hf19 (fun _ h9 => h9) rfl (by decide +kernel) rfl rfl (Nat.le_of_ble_eq_true rfl) dX2_tryAt_74 (fun H locs hP hD hS => ?_)
      have hP : va_P D vwCl (searchW k a (x1, y2, y3, Z.2.2.2) ++ (sceneW k b S)) H := hP
      have hD : va_D A0 (searchW k a (x1, y2, y3, Z.2.2.2) ++ (sceneW k b S)) := hD
      obtain rfl := Option.some.inj h
      exact hQ _ _ _ _ dX2_tryAt_77 hP hS
  refine lp_W (P := fun z3 => ∀ (ls : Array Slot), lv_has ls 7 [(0, .ref (a 0)), (1, .ref (b 0)), (2, .int y2), (3, .int y3), (4, .int z3.1), (5, .int z3.2)] → W p l e rm_X2_tryAt s m args below meth c s.heap [] 0 0 Q (F0 m 6 ls [])) (E := fun x1 => ∀ (ls : Array Slot), lv_has ls 7 [(0, .ref (a 0)), (2, .int y2), (3, .int y3), (4, .int x1)] → W p l e rm_X2_tryAt s m args below meth c s.heap [] 0 0 Q (F0 m 52 ls [])) (fun z3 xx5 hB4 kI6 kE7 => ?_) _ _ _ h2 K13 ls (lv_sub hl [2, 3, 4, 5, 1, 0] rfl)
  intro ls hl
  unfold f_X2_tryAt_L6 at hB4
  refine lv_iload hx hb dX2_tryAt_6 (lv_at hl 5 rfl) ?_
  refine lv_bipush (v := 16) hx hb dX2_tryAt_8 (by decide) ?_
  refine lv_icmp_ge (tgt := 52) hx hb dX2_tryAt_10 (by decide) (fun c9 => ?_) (fun c9 => ?_)
  · have hB4 := if_t hB4 c9
    exact kE7 _ (Option.some.inj hB4).symm ls (lv_sub hl [0, 2, 3, 4] rfl)
  · have hB4 := if_f hB4 c9
    refine lv_iload hx hb dX2_tryAt_13 (lv_at hl 4 rfl) ?_
    refine lv_aload_n hx hb dX2_tryAt_15 rfl (lv_at hl 0 rfl) ?_
    refine va_get (D := D) (ci := 2) (v := .int Z.1) (C := RX2) (T := TX2) (N := 8) hx hb hts hiRX2 hown hK hP 0 rfl rfl 0 (by decide) hf10 (fun _ h9 => h9) rfl dX2_tryAt_16 ?_
    refine lv_icmp_ge (tgt := 52) hx hb dX2_tryAt_19 (by decide) (fun c10 => ?_) (fun c10 => ?_)
    · have hB4 := if_t hB4 c10
      exact kE7 _ (Option.some.inj hB4).symm ls (lv_sub hl [0, 2, 3, 4] rfl)
    · have hB4 := if_f hB4 c10
      refine lv_iload hx hb dX2_tryAt_22 (lv_at hl 5 rfl) ?_
      refine lv_iload_n hx hb dX2_tryAt_24 rfl (lv_at hl 3 rfl) ?_
      refine lv_isub hx hb dX2_tryAt_25 ?_
      refine lv_istore (lv' := [(6, .int (z3.2 - y3)), (0, .ref (a 0)), (1, .ref (b 0)), (2, .int y2), (3, .int y3), (4, .int z3.1), (5, .int z3.2)]) hx hb dX2_tryAt_26 hl (by decide) rfl (fun ls hl => ?_)
      refine lv_iload hx hb dX2_tryAt_28 (lv_at hl 5 rfl) ?_
      refine lv_aload_n hx hb dX2_tryAt_30 rfl (lv_at hl 1 rfl) ?_
      refine lv_aload_n hx hb dX2_tryAt_31 rfl (lv_at hl 2 rfl) ?_
      refine lv_iload hx hb dX2_tryAt_32 (lv_at hl 6 rfl) ?_
      refine lv_iload_n hx hb dX2_tryAt_34 rfl (lv_at hl 3 rfl) ?_
      refine lv_iload hx hb dX2_tryAt_35 (lv_at hl 0 rfl) ?_
      refine lv_iload hx hb dX2_tryAt_37 (lv_at hl 0 rfl) ?_
      refine lv_imul hx hb dX2_tryAt_39 ?_
      obtain ⟨x11, h12, hB4⟩ := bd_s hB4
      refine cR_V (As := [.ref (b 0), .int z3.2, .int y2, .int ((z3.2 - y3) * (z3.2 - y3))]) (rest := [.int z3.1]) (n := 4) (v := .int x11) hx hb hml hown hts hK hN hl.1 (c_X2_farOfRow l D k a b Z S z3.2 y2 ((z3.2 - y3) * (z3.2 - y3)) x11 h12) gX2_tryAt_X2_farOfRow rfl (by decide +kernel) ⟨⟨rfl, rfl⟩, by decide, by decide⟩ (hP.sub (ws' := searchW k a Z ++ (sceneW k b S)) [0, 1, 2, 3, 4, 5, 6, 7, 8, 9, 10, 11, 12, 13, 14, 15, 16] rfl) 0 2 rfl rfl rfl rfl rfl (Nat.le_of_ble_eq_true rfl) dX2_tryAt_40 ⟨Nat.zero_le _, Nat.zero_le _⟩ ?_
      refine lv_iadd hx hb dX2_tryAt_43 ?_
      refine lv_istore (lv' := [(4, .int (z3.1 + x11)), (6, .int (z3.2 - y3)), (0, .ref (a 0)), (1, .ref (b 0)), (2, .int y2), (3, .int y3), (5, .int z3.2)]) hx hb dX2_tryAt_44 hl (by decide) rfl (fun ls hl => ?_)
      refine lv_iinc (v := (z3.2 + 1)) (lv' := [(5, .int (z3.2 + 1)), (4, .int (z3.1 + x11)), (6, .int (z3.2 - y3)), (0, .ref (a 0)), (1, .ref (b 0)), (2, .int y2), (3, .int y3)]) hx hb dX2_tryAt_46 hl (k := 6) rfl rfl (by decide) rfl (fun ls hl => ?_)
      refine lv_goto (tgt := 6) hx hb dX2_tryAt_49 (by decide) ?_
      exact kI6 _ (Option.some.inj hB4).symm ls (lv_sub hl [3, 4, 5, 6, 1, 0] rfl)

abbrev rm_X2_run : Room := { frames := 2, cells := 0, slots := 0, locals := 65 }
def f_X2_run_L15 (S : SceneV) (z : Int32 × SearchV) : Option ((Int32 × SearchV) ⊕ (SearchV)) := if 16 ≤ z.1 then (some (.inr z.2)) else ((f_X2_readRow z.2 S z.1).bind (fun x4 => some (.inl ((z.1 + 1), x4))))
def f_X2_run_L55 (S : SceneV) (y3 : Int32) (z : Int32 × SearchV) : Option ((Int32 × SearchV) ⊕ (SearchV)) := gd (ix y3 16) (if (S.2.1 (y3 : Int32).toNatClampNeg) < z.1 then (some (.inr z.2)) else ((f_X1_gaugeAt S z.1 y3).bind (fun x14 => (if x14 = (-1) then ((f_X2_tryAt z.2 S z.1 y3).bind (fun x20 => some x20)) else (some z.2) : Option (SearchV)).bind (fun x16 => some (.inl ((z.1 + 1), x16))))))
def f_X2_run_L41 (S : SceneV) (z : Int32 × SearchV) : Option ((Int32 × SearchV) ⊕ (SearchV)) := if 16 ≤ z.1 then (some (.inr z.2)) else (gd (ix z.1 16) ((lp (f_X2_run_L55 S z.1) fu ((S.1 (z.1 : Int32).toNatClampNeg), z.2)).bind (fun x12 => some (.inl ((z.1 + 1), x12)))))
def f_X2_run (Z : SearchV) (S : SceneV) (y2 : Int32) : Option (SearchV) := (f_X0_workOut Z.2.2.2.1 S Z.2.2.2.2.1 y2).bind (fun x1 => (lp (f_X2_run_L15 S) fu (0, (Z.1, Z.2.1, Z.2.2.1, x1.1, x1.2, Z.2.2.2.2.2))).bind (fun x3 => (lp (f_X2_run_L41 S) fu (0, (1000000000, x3.2))).bind (fun x10 => some x10)))
set_option maxHeartbeats 4000000 in
set_option maxRecDepth 100000 in
theorem c_X2_run (l : Launch) (D : va_G) (k : Nat → ClassId) (a : Nat → Nat) (b : Nat → Nat) (Z : SearchV) (S : SceneV) (y2 : Int32) (r : SearchV) (h : f_X2_run Z S y2 = some r) : Met l yX2_run wsX2_run rm_X2_run (va_Pc [.ref (a 0), .ref (b 0), .int y2] (MB D k (searchW k a Z ++ (sceneW k b S)))) (QM D (searchW k a Z ++ (sceneW k b S)) (searchW k a r ++ (sceneW k b S)) none) 0 0 (AD (searchW k a Z ++ (sceneW k b S))) := by
  refine met_Mv (by decide) rfl (Nat.le_of_ble_eq_true rfl) ?_
  intro p e s m below meth c Q args ls hx hb hml hown hts hP hK hN hD hl hQ
  have hl : lv_has ls 5 [(0, .ref (a 0)), (1, .ref (b 0)), (2, .int y2)] := hl
  have hown : s.vm.findClass RX2 = some m.cls := hown
  unfold f_X2_run at h
  have hiRX2 : ∀ w ∈ u_ws RX2 TX2 8, w ∈ wsX2_run := by decide +kernel
  have hiRX1 : ∀ w ∈ u_ws RX1 TX1 8, w ∈ wsX2_run := by decide +kernel
  have hf25 := hts (.fieldLink RX2 25 "RainCells$Search" "cells" "LRainCells$Cells;") (by decide +kernel)
  have hf29 := hts (.fieldLink RX2 29 "RainCells$Search" "lefts" "[I") (by decide +kernel)
  have hf10 := hts (.fieldLink RX2 10 "RainCells$Search" "least" "I") (by decide +kernel)
  have hf50 := hts (.fieldLink RX2 50 "RainCells$Scene" "rowFrom" "[I") (by decide +kernel)
  have hf55 := hts (.fieldLink RX2 55 "RainCells$Scene" "rowTo" "[I") (by decide +kernel)
  generalize AD (searchW k a Z ++ (sceneW k b S)) = A0 at hD hQ
  have hS : va_S A0 s.heap s.heap [] := va_S.rf
  refine lv_aload_n hx hb dX2_run_0 rfl (lv_at hl 0 rfl) ?_
  refine va_get (D := D) (ci := 2) (v := .ref (a 1)) (C := RX2) (T := TX2) (N := 8) hx hb hts hiRX2 hown hK hP 0 rfl rfl 3 (by decide) hf25 (fun _ h9 => h9) rfl dX2_run_1 ?_
  refine lv_aload_n hx hb dX2_run_4 rfl (lv_at hl 1 rfl) ?_
  refine lv_iload_n hx hb dX2_run_5 rfl (lv_at hl 2 rfl) ?_
  refine lv_aload_n hx hb dX2_run_6 rfl (lv_at hl 0 rfl) ?_
  refine va_get (D := D) (ci := 2) (v := .ref (a 5)) (C := RX2) (T := TX2) (N := 8) hx hb hts hiRX2 hown hK hP 0 rfl rfl 4 (by decide) hf29 (fun _ h9 => h9) rfl dX2_run_7 ?_
  obtain ⟨x1, h2, h⟩ := bd_s h
  refine cM_V (As := [.ref (b 0), .int y2, .ref (a 5)]) (rest := []) (n := 3) (ov := none) (wc := cellsW k (fun j => a (1 + j)) Z.2.2.2.1 ++ (sceneW k b S ++ (arrW k (fun j => a (5 + j)) 256 Z.2.2.2.2.1))) (wc' := cellsW k (fun j => a (1 + j)) x1.1 ++ (sceneW k b S ++ (arrW k (fun j => a (5 + j)) 256 x1.2))) (w1 := searchW k a (Z.1, Z.2.1, Z.2.2.1, x1.1, x1.2, Z.2.2.2.2.2) ++ (sceneW k b S)) hx hb hml hown hts hK hN hl.1 hP hD hS (Sp.idx (N := 17) [1, 2, 3, 4, 9, 10, 11, 12, 13, 14, 15, 16, 5] [0, 6, 7, 8] (by decide) rfl rfl rfl (Nat.le_of_ble_eq_true rfl) (by decide) (by decide) rfl) (c_X0_workOut l D k (fun j => a (1 + j)) b (fun j => a (5 + j)) Z.2.2.2.1 S Z.2.2.2.2.1 y2 x1 h2) gX2_run_X0_workOut rfl (by decide +kernel) ⟨⟨rfl, rfl⟩, by decide, by decide⟩ 0 0 rfl rfl rfl rfl rfl (Nat.le_of_ble_eq_true rfl) dX2_run_10 ⟨Nat.zero_le _, Nat.zero_le _⟩ (fun H locs hP hD hS => ?_)
  show W p l e rm_X2_run s m args below meth c H locs 0 0 Q (F0 m 13 ls [])
  refine lv_iconst (v := 0) hx hb dX2_run_13 (by decide) ?_
  refine lv_istore_n (lv' := [(3, .int 0), (0, .ref (a 0)), (1, .ref (b 0)), (2, .int y2)]) hx hb dX2_run_14 rfl hl (by decide) rfl (fun ls hl => ?_)
  obtain ⟨x3, h4, h⟩ := bd_s h
  have K41 : ∀ (ls : Array Slot) (H : Heap) (locs : List Loc), lv_has ls 5 [(0, .ref (a 0)), (1, .ref (b 0))] → va_P D vwCl (searchW k a x3 ++ (sceneW k b S)) H → va_D A0 (searchW k a x3 ++ (sceneW k b S)) → va_S A0 s.heap H locs → W p l e rm_X2_run s m args below meth c H locs 0 0 Q (F0 m 33 ls []) := by
    intro ls H locs hl hP hD hS
    refine lv_aload_n hx hb dX2_run_33 rfl (lv_at hl 0 rfl) ?_
    refine lv_ldc hx hb hown (hts (.constant RX2 9 (1000000000)) (by decide +kernel)) dX2_run_34 ?_
    refine va_put (D := D) (ci := 2) (v := .int 1000000000) (ty := .int) (C := RX2) (T := TX2) (N := 8) hx hb hts hiRX2 tyX2 tyX2_ok nmX2 hown hK hP hD hS 0 rfl rfl 0 (by decide) hf10 (fun _ h9 => h9) rfl (by decide +kernel) rfl rfl (Nat.le_of_ble_eq_true rfl) dX2_run_36 (fun H locs hP hD hS => ?_)
    have hP : va_P D vwCl (searchW k a (1000000000, x3.2) ++ (sceneW k b S)) H := hP
    have hD : va_D A0 (searchW k a (1000000000, x3.2) ++ (sceneW k b S)) := hD
    refine lv_iconst (v := 0) hx hb dX2_run_39 (by decide) ?_
    refine lv_istore_n (lv' := [(3, .int 0), (0, .ref (a 0)), (1, .ref (b 0))]) hx hb dX2_run_40 rfl hl (by decide) rfl (fun ls hl => ?_)
    obtain ⟨x10, h11, h⟩ := bd_s h
    have K37 : ∀ (ls : Array Slot) (H : Heap) (locs : List Loc), lv_has ls 5 [] → va_P D vwCl (searchW k a x10 ++ (sceneW k b S)) H → va_D A0 (searchW k a x10 ++ (sceneW k b S)) → va_S A0 s.heap H locs → W p l e rm_X2_run s m args below meth c H locs 0 0 Q (F0 m 97 ls []) := by
      intro ls H locs hl hP hD hS
      obtain rfl := Option.some.inj h
      exact hQ _ _ _ _ dX2_run_97 hP hS
    refine lp_W (P := fun z12 => ∀ (ls : Array Slot) (H : Heap) (locs : List Loc), lv_has ls 5 [(0, .ref (a 0)), (1, .ref (b 0)), (3, .int z12.1)] → va_P D vwCl (searchW k a z12.2 ++ (sceneW k b S)) H → va_D A0 (searchW k a z12.2 ++ (sceneW k b S)) → va_S A0 s.heap H locs → W p l e rm_X2_run s m args below meth c H locs 0 0 Q (F0 m 41 ls [])) (E := fun x10 => ∀ (ls : Array Slot) (H : Heap) (locs : List Loc), lv_has ls 5 [] → va_P D vwCl (searchW k a x10 ++ (sceneW k b S)) H → va_D A0 (searchW k a x10 ++ (sceneW k b S)) → va_S A0 s.heap H locs → W p l e rm_X2_run s m args below meth c H locs 0 0 Q (F0 m 97 ls [])) (fun z12 xx14 hB13 kI15 kE16 => ?_) _ _ _ h11 K37 ls H locs (lv_sub hl [1, 2, 0] rfl) hP hD hS
    intro ls H locs hl hP hD hS
    unfold f_X2_run_L41 at hB13
    refine lv_iload_n hx hb dX2_run_41 rfl (lv_at hl 2 rfl) ?_
    refine lv_bipush (v := 16) hx hb dX2_run_42 (by decide) ?_
    refine lv_icmp_ge (tgt := 97) hx hb dX2_run_44 (by decide) (fun c17 => ?_) (fun c17 => ?_)
    · have hB13 := if_t hB13 c17
      exact kE16 _ (Option.some.inj hB13).symm ls H locs (lv_sub hl [] rfl) hP hD hS
    · have hB13 := if_f hB13 c17
      refine lv_aload_n hx hb dX2_run_47 rfl (lv_at hl 1 rfl) ?_
      refine va_get (D := D) (ci := 1) (v := .ref (b 1)) (C := RX1) (T := TX1) (N := 8) hx hb hts hiRX1 hown hK hP 9 rfl rfl 0 (by decide) hf50 (fun _ h9 => h9) rfl dX2_run_48 ?_
      refine lv_iload_n hx hb dX2_run_51 rfl (lv_at hl 2 rfl) ?_
      obtain ⟨c18, hB13⟩ := gd_s hB13
      refine va_iald (D := D) hx hb hK hP 10 0 rfl rfl (ix_in c18) dX2_run_52 ?_
      refine lv_istore (lv' := [(4, .int (S.1 (z12.1 : Int32).toNatClampNeg)), (0, .ref (a 0)), (1, .ref (b 0)), (3, .int z12.1)]) hx hb dX2_run_53 hl (by decide) rfl (fun ls hl => ?_)
      obtain ⟨x19, h20, hB13⟩ := bd_s hB13
      have K36 : ∀ (ls : Array Slot) (H : Heap) (locs : List Loc), lv_has ls 5 [(0, .ref (a 0)), (1, .ref (b 0)), (3, .int z12.1)] → va_P D vwCl (searchW k a x19 ++ (sceneW k b S)) H → va_D A0 (searchW k a x19 ++ (sceneW k b S)) → va_S A0 s.heap H locs → W p l e rm_X2_run s m args below meth c H locs 0 0 Q (F0 m 91 ls []) := by
        intro ls H locs hl hP hD hS
        refine lv_iinc (v := (z12.1 + 1)) (lv' := [(3, .int (z12.1 + 1)), (0, .ref (a 0)), (1, .ref (b 0))]) hx hb dX2_run_91 hl (k := 2) rfl rfl (by decide) rfl (fun ls hl => ?_)
        refine lv_goto (tgt := 41) hx hb dX2_run_94 (by decide) ?_
        exact kI15 _ (Option.some.inj hB13).symm ls H locs (lv_sub hl [1, 2, 0] rfl) hP hD hS
      refine lp_W (P := fun z21 => ∀ (ls : Array Slot) (H : Heap) (locs : List Loc), lv_has ls 5 [(0, .ref (a 0)), (1, .ref (b 0)), (3, .int z12.1), (4, .int z21.1)] → va_P D vwCl (searchW k a z21.2 ++ (sceneW k b S)) H → va_D A0 (searchW k a z21.2 ++ (sceneW k b S)) → va_S A0 s.heap H locs → W p l e rm_X2_run s m args below meth c H locs 0 0 Q (F0 m 55 ls [])) (E := fun x19 => ∀ (ls : Array Slot) (H : Heap) (locs : List Loc), lv_has ls 5 [(0, .ref (a 0)), (1, .ref (b 0)), (3, .int z12.1)] → va_P D vwCl (searchW k a x19 ++ (sceneW k b S)) H → va_D A0 (searchW k a x19 ++ (sceneW k b S)) → va_S A0 s.heap H locs → W p l e rm_X2_run s m args below meth c H locs 0 0 Q (F0 m 91 ls [])) (fun z21 xx23 hB22 kI24 kE25 => ?_) _ _ _ h20 K36 ls H locs (lv_sub hl [1, 2, 3, 0] rfl) hP hD hS
      intro ls H locs hl hP hD hS
      unfold f_X2_run_L55 at hB22
      refine lv_iload hx hb dX2_run_55 (lv_at hl 3 rfl) ?_
      refine lv_aload_n hx hb dX2_run_57 rfl (lv_at hl 1 rfl) ?_
      refine va_get (D := D) (ci := 1) (v := .ref (b 2)) (C := RX1) (T := TX1) (N := 8) hx hb hts hiRX1 hown hK hP 9 rfl rfl 1 (by decide) hf55 (fun _ h9 => h9) rfl dX2_run_58 ?_
      refine lv_iload_n hx hb dX2_run_61 rfl (lv_at hl 2 rfl) ?_
      obtain ⟨c26, hB22⟩ := gd_s hB22
      refine va_iald (D := D) hx hb hK hP 11 0 rfl rfl (ix_in c26) dX2_run_62 ?_
      refine lv_icmp_gt (tgt := 91) hx hb dX2_run_63 (by decide) (fun c27 => ?_) (fun c27 => ?_)
      · have hB22 := if_t hB22 c27
        exact kE25 _ (Option.some.inj hB22).symm ls H locs (lv_sub hl [0, 1, 2] rfl) hP hD hS
      · have hB22 := if_f hB22 c27
        refine lv_aload_n hx hb dX2_run_66 rfl (lv_at hl 1 rfl) ?_
        refine lv_iload hx hb dX2_run_67 (lv_at hl 3 rfl) ?_
        refine lv_iload_n hx hb dX2_run_69 rfl (lv_at hl 2 rfl) ?_
        obtain ⟨x28, h29, hB22⟩ := bd_s hB22
        refine cR_V (As := [.int z21.1, .int z12.1]) (rest := []) (n := 2) (v := .int x28) hx hb hml hown hts hK hN hl.1 (c_X1_gaugeAt l D k b S z21.1 z12.1 x28 h29) gX2_run_X1_gaugeAt rfl (by decide +kernel) ⟨⟨rfl, rfl⟩, by decide, by decide⟩ (hP.sub (ws' := sceneW k b S) [9, 10, 11, 12, 13, 14, 15, 16] rfl) 0 1 rfl rfl rfl rfl rfl (Nat.le_of_ble_eq_true rfl) dX2_run_70 ⟨Nat.zero_le _, Nat.zero_le _⟩ ?_
        refine lv_iconst (v := (-1)) hx hb dX2_run_73 (by decide) ?_
        obtain ⟨x30, h31, hB22⟩ := bd_s hB22
        have K32 : ∀ (ls : Array Slot) (H : Heap) (locs : List Loc), lv_has ls 5 [(0, .ref (a 0)), (1, .ref (b 0)), (3, .int z12.1), (4, .int z21.1)] → va_P D vwCl (searchW k a x30 ++ (sceneW k b S)) H → va_D A0 (searchW k a x30 ++ (sceneW k b S)) → va_S A0 s.heap H locs → W p l e rm_X2_run s m args below meth c H locs 0 0 Q (F0 m 85 ls []) := by
          intro ls H locs hl hP hD hS
          refine lv_iinc (v := (z21.1 + 1)) (lv' := [(4, .int (z21.1 + 1)), (0, .ref (a 0)), (1, .ref (b 0)), (3, .int z12.1)]) hx hb dX2_run_85 hl (k := 3) rfl rfl (by decide) rfl (fun ls hl => ?_)
          refine lv_goto (tgt := 55) hx hb dX2_run_88 (by decide) ?_
          exact kI24 _ (Option.some.inj hB22).symm ls H locs (lv_sub hl [1, 2, 3, 0] rfl) hP hD hS
        refine lv_icmp_ne (tgt := 85) hx hb dX2_run_74 (by decide) (fun c33 => ?_) (fun c33 => ?_)
        · have h31 := if_f h31 c33
          obtain rfl := Option.some.inj h31
          exact K32 ls H locs (lv_sub hl [0, 1, 2, 3] rfl) hP hD hS
        · have h31 := if_t h31 c33
          refine lv_aload_n hx hb dX2_run_77 rfl (lv_at hl 0 rfl) ?_
          refine lv_aload_n hx hb dX2_run_78 rfl (lv_at hl 1 rfl) ?_
          refine lv_iload hx hb dX2_run_79 (lv_at hl 3 rfl) ?_
          refine lv_iload_n hx hb dX2_run_81 rfl (lv_at hl 2 rfl) ?_
          obtain ⟨x34, h35, h31⟩ := bd_s h31
          refine cM_V (As := [.ref (b 0), .int z21.1, .int z12.1]) (rest := []) (n := 3) (ov := none) (wc := searchW k a z21.2 ++ (sceneW k b S)) (wc' := searchW k a x34 ++ (sceneW k b S)) (w1 := searchW k a x34 ++ (sceneW k b S)) hx hb hml hown hts hK hN hl.1 hP hD hS (Sp.idx (N := 17) [0, 1, 2, 3, 4, 5, 6, 7, 8, 9, 10, 11, 12, 13, 14, 15, 16] [] (by decide) rfl rfl rfl (Nat.le_of_ble_eq_true rfl) (by decide) (by decide) rfl) (c_X2_tryAt l D k a b z21.2 S z21.1 z12.1 x34 h35) gX2_run_X2_tryAt rfl (by decide +kernel) ⟨⟨rfl, rfl⟩, by decide, by decide⟩ 0 2 rfl rfl rfl rfl rfl (Nat.le_of_ble_eq_true rfl) dX2_run_82 ⟨Nat.zero_le _, Nat.zero_le _⟩ (fun H locs hP hD hS => ?_)
          show W p l e rm_X2_run s m args below meth c H locs 0 0 Q (F0 m 85 ls [])
          obtain rfl := Option.some.inj h31
          exact K32 ls H locs (lv_sub hl [0, 1, 2, 3] rfl) hP hD hS
  refine lp_W (P := fun z5 => ∀ (ls : Array Slot) (H : Heap) (locs : List Loc), lv_has ls 5 [(0, .ref (a 0)), (1, .ref (b 0)), (3, .int z5.1)] → va_P D vwCl (searchW k a z5.2 ++ (sceneW k b S)) H → va_D A0 (searchW k a z5.2 ++ (sceneW k b S)) → va_S A0 s.heap H locs → W p l e rm_X2_run s m args below meth c H locs 0 0 Q (F0 m 15 ls [])) (E := fun x3 => ∀ (ls : Array Slot) (H : Heap) (locs : List Loc), lv_has ls 5 [(0, .ref (a 0)), (1, .ref (b 0))] → va_P D vwCl (searchW k a x3 ++ (sceneW k b S)) H → va_D A0 (searchW k a x3 ++ (sceneW k b S)) → va_S A0 s.heap H locs → W p l e rm_X2_run s m args below meth c H locs 0 0 Q (F0 m 33 ls [])) (fun z5 xx7 hB6 kI8 kE9 => ?_) _ _ _ h4 K41 ls H locs (lv_sub hl [1, 2, 0] rfl) hP hD hS
  intro ls H locs hl hP hD hS
  unfold f_X2_run_L15 at hB6
  refine lv_iload_n hx hb dX2_run_15 rfl (lv_at hl 2 rfl) ?_
  refine lv_bipush (v := 16) hx hb dX2_run_16 (by decide) ?_
  refine lv_icmp_ge (tgt := 33) hx hb dX2_run_18 (by decide) (fun c38 => ?_) (fun c38 => ?_)
  · have hB6 := if_t hB6 c38
    exact kE9 _ (Option.some.inj hB6).symm ls H locs (lv_sub hl [0, 1] rfl) hP hD hS
  · have hB6 := if_f hB6 c38
    refine lv_aload_n hx hb dX2_run_21 rfl (lv_at hl 0 rfl) ?_
    refine lv_aload_n hx hb dX2_run_22 rfl (lv_at hl 1 rfl) ?_
    refine lv_iload_n hx hb dX2_run_23 rfl (lv_at hl 2 rfl) ?_
    obtain ⟨x39, h40, hB6⟩ := bd_s hB6
    refine cM_V (As := [.ref (b 0), .int z5.1]) (rest := []) (n := 2) (ov := none) (wc := searchW k a z5.2 ++ (sceneW k b S)) (wc' := searchW k a x39 ++ (sceneW k b S)) (w1 := searchW k a x39 ++ (sceneW k b S)) hx hb hml hown hts hK hN hl.1 hP hD hS (Sp.idx (N := 17) [0, 1, 2, 3, 4, 5, 6, 7, 8, 9, 10, 11, 12, 13, 14, 15, 16] [] (by decide) rfl rfl rfl (Nat.le_of_ble_eq_true rfl) (by decide) (by decide) rfl) (c_X2_readRow l D k a b z5.2 S z5.1 x39 h40) gX2_run_X2_readRow rfl (by decide +kernel) ⟨⟨rfl, rfl⟩, by decide, by decide⟩ 0 2 rfl rfl rfl rfl rfl (Nat.le_of_ble_eq_true rfl) dX2_run_24 ⟨Nat.zero_le _, Nat.zero_le _⟩ (fun H locs hP hD hS => ?_)
    show W p l e rm_X2_run s m args below meth c H locs 0 0 Q (F0 m 27 ls [])
    refine lv_iinc (v := (z5.1 + 1)) (lv' := [(3, .int (z5.1 + 1)), (0, .ref (a 0)), (1, .ref (b 0))]) hx hb dX2_run_27 hl (k := 2) rfl rfl (by decide) rfl (fun ls hl => ?_)
    refine lv_goto (tgt := 15) hx hb dX2_run_30 (by decide) ?_
    exact kI8 _ (Option.some.inj hB6).symm ls H locs (lv_sub hl [1, 2, 0] rfl) hP hD hS
