/-! written by wip/whole/gen.py -/
abbrev rm_X0_claim : Room := { frames := 0, cells := 0, slots := 0, locals := 0 }
def f_X0_claim_L61 (S : SceneV) (y2 : Int32) (y4 : Int32) (y5 : Int32) (y7 : Int32) (y8 : Int32) (z : Int32 × CellV × (Nat → Int32)) : Option ((Int32 × CellV × (Nat → Int32)) ⊕ (CellV × (Nat → Int32))) := if y8 < z.1 then (some (.inr (z.2.1, z.2.2))) else (gd (ix ((y5 * 16) + z.1) 256) ((if (z.2.2 (((y5 * 16) + z.1) : Int32).toNatClampNeg) ≤ (((z.1 - y4) * (z.1 - y4)) + y7) then (some (z.2.1, z.2.2)) else (gd (ix ((y5 * 16) + z.1) 256) (gd (ix ((y5 * 16) + z.1) 256) (some (((z.2.1).1, (upd ((z.2.1).2.1) (((y5 * 16) + z.1) : Int32).toNatClampNeg y2), (z.2.1).2.2), (upd z.2.2 (((y5 * 16) + z.1) : Int32).toNatClampNeg (((z.1 - y4) * (z.1 - y4)) + y7)))))) : Option (CellV × (Nat → Int32))).bind (fun x9 => some (.inl ((z.1 + 1), x9.1, x9.2)))))
def f_X0_claim_L11 (S : SceneV) (y2 : Int32) (y4 : Int32) (z : Int32 × CellV × (Nat → Int32)) : Option ((Int32 × CellV × (Nat → Int32)) ⊕ (CellV × (Nat → Int32))) := if 16 ≤ z.1 then (some (.inr (z.2.1, z.2.2))) else (gd (ix y2 8) (gd (ix y2 8) (gd (ix z.1 16) (gd (ix z.1 16) ((lp (f_X0_claim_L61 S y2 y4 z.1 (((z.1 - (S.2.2.2.2.1 (y2 : Int32).toNatClampNeg)) * (z.1 - (S.2.2.2.2.1 (y2 : Int32).toNatClampNeg))) - (S.2.2.2.2.2.1 (y2 : Int32).toNatClampNeg)) (S.2.1 (z.1 : Int32).toNatClampNeg)) fu ((S.1 (z.1 : Int32).toNatClampNeg), z.2.1, z.2.2)).bind (fun x7 => some (.inl ((z.1 + 1), x7.1, x7.2))))))))
def f_X0_claim (V : CellV) (S : SceneV) (L : (Nat → Int32)) (y2 : Int32) : Option (CellV × (Nat → Int32)) := gd (ix y2 8) ((lp (f_X0_claim_L11 S y2 (S.2.2.2.1 (y2 : Int32).toNatClampNeg)) fu (0, V, L)).bind (fun x2 => some (x2.1, x2.2)))
set_option maxHeartbeats 4000000 in
set_option maxRecDepth 100000 in
theorem c_X0_claim (l : Launch) (D : va_G) (k : Nat → ClassId) (a : Nat → Nat) (b : Nat → Nat) (q : Nat → Nat) (V : CellV) (S : SceneV) (L : (Nat → Int32)) (y2 : Int32) (r : CellV × (Nat → Int32)) (h : f_X0_claim V S L y2 = some r) : Met l yX0_claim wsX0_claim rm_X0_claim (va_Pc [.ref (a 0), .ref (b 0), .int y2, .ref (q 0)] (MB D k (cellsW k a V ++ (sceneW k b S ++ (arrW k q 256 L))))) (QM D (cellsW k a V ++ (sceneW k b S ++ (arrW k q 256 L))) (cellsW k a r.1 ++ (sceneW k b S ++ (arrW k q 256 r.2))) none) 0 0 (AD (cellsW k a V ++ (sceneW k b S ++ (arrW k q 256 L)))) := by
  refine met_Mv (by decide) rfl (Nat.le_of_ble_eq_true rfl) ?_
  intro p e s m below meth c Q args ls hx hb hml hown hts hP hK hN hD hl hQ
  have hl : lv_has ls 13 [(0, .ref (a 0)), (1, .ref (b 0)), (2, .int y2), (3, .ref (q 0))] := hl
  have hown : s.vm.findClass RX0 = some m.cls := hown
  unfold f_X0_claim at h
  have hiRX1 : ∀ w ∈ u_ws RX1 TX1 8, w ∈ wsX0_claim := by decide +kernel
  have hiRX0 : ∀ w ∈ u_ws RX0 TX0 4, w ∈ wsX0_claim := by decide +kernel
  have hf42 := hts (.fieldLink RX0 42 "RainCells$Scene" "placeX" "[I") (by decide +kernel)
  have hf45 := hts (.fieldLink RX0 45 "RainCells$Scene" "placeY" "[I") (by decide +kernel)
  have hf39 := hts (.fieldLink RX0 39 "RainCells$Scene" "reaches" "[I") (by decide +kernel)
  have hf48 := hts (.fieldLink RX0 48 "RainCells$Scene" "rowTo" "[I") (by decide +kernel)
  have hf51 := hts (.fieldLink RX0 51 "RainCells$Scene" "rowFrom" "[I") (by decide +kernel)
  have hf15 := hts (.fieldLink RX0 15 "RainCells$Cells" "owners" "[I") (by decide +kernel)
  generalize AD (cellsW k a V ++ (sceneW k b S ++ (arrW k q 256 L))) = A0 at hD hQ
  have hS : va_S A0 s.heap s.heap [] := va_S.rf
  refine lv_aload_n hx hb dX0_claim_0 rfl (lv_at hl 1 rfl) ?_
  refine va_get (D := D) (ci := 1) (v := .ref (b 3)) (C := RX1) (T := TX1) (N := 8) hx hb hts hiRX1 hown hK hP 4 rfl rfl 3 (by decide) hf42 (fun _ h9 => h9) rfl dX0_claim_1 ?_
  refine lv_iload_n hx hb dX0_claim_4 rfl (lv_at hl 2 rfl) ?_
  obtain ⟨c1, h⟩ := gd_s h
  refine va_iald (D := D) hx hb hK hP 7 0 rfl rfl (ix_in c1) dX0_claim_5 ?_
  refine lv_istore (lv' := [(4, .int (S.2.2.2.1 (y2 : Int32).toNatClampNeg)), (0, .ref (a 0)), (1, .ref (b 0)), (2, .int y2), (3, .ref (q 0))]) hx hb dX0_claim_6 hl (by decide) rfl (fun ls hl => ?_)
  refine lv_iconst (v := 0) hx hb dX0_claim_8 (by decide) ?_
  refine lv_istore (lv' := [(5, .int 0), (4, .int (S.2.2.2.1 (y2 : Int32).toNatClampNeg)), (0, .ref (a 0)), (1, .ref (b 0)), (2, .int y2), (3, .ref (q 0))]) hx hb dX0_claim_9 hl (by decide) rfl (fun ls hl => ?_)
  obtain ⟨x2, h3, h⟩ := bd_s h
  have K30 : ∀ (ls : Array Slot) (H : Heap) (locs : List Loc), lv_has ls 13 [] → va_P D vwCl (cellsW k a x2.1 ++ (sceneW k b S ++ (arrW k q 256 x2.2))) H → va_D A0 (cellsW k a x2.1 ++ (sceneW k b S ++ (arrW k q 256 x2.2))) → va_S A0 s.heap H locs → W p l e rm_X0_claim s m args below meth c H locs 0 0 Q (F0 m 130 ls []) := by
    intro ls H locs hl hP hD hS
    obtain rfl := Option.some.inj h
    exact hQ _ _ _ _ dX0_claim_130 hP hS
  refine lp_W (P := fun z4 => ∀ (ls : Array Slot) (H : Heap) (locs : List Loc), lv_has ls 13 [(0, .ref (a 0)), (1, .ref (b 0)), (2, .int y2), (3, .ref (q 0)), (4, .int (S.2.2.2.1 (y2 : Int32).toNatClampNeg)), (5, .int z4.1)] → va_P D vwCl (cellsW k a z4.2.1 ++ (sceneW k b S ++ (arrW k q 256 z4.2.2))) H → va_D A0 (cellsW k a z4.2.1 ++ (sceneW k b S ++ (arrW k q 256 z4.2.2))) → va_S A0 s.heap H locs → W p l e rm_X0_claim s m args below meth c H locs 0 0 Q (F0 m 11 ls [])) (E := fun x2 => ∀ (ls : Array Slot) (H : Heap) (locs : List Loc), lv_has ls 13 [] → va_P D vwCl (cellsW k a x2.1 ++ (sceneW k b S ++ (arrW k q 256 x2.2))) H → va_D A0 (cellsW k a x2.1 ++ (sceneW k b S ++ (arrW k q 256 x2.2))) → va_S A0 s.heap H locs → W p l e rm_X0_claim s m args below meth c H locs 0 0 Q (F0 m 130 ls [])) (fun z4 xx6 hB5 kI7 kE8 => ?_) _ _ _ h3 K30 ls s.heap [] (lv_sub hl [2, 3, 4, 5, 1, 0] rfl) hP hD hS
  intro ls H locs hl hP hD hS
  unfold f_X0_claim_L11 at hB5
  refine lv_iload hx hb dX0_claim_11 (lv_at hl 5 rfl) ?_
  refine lv_bipush (v := 16) hx hb dX0_claim_13 (by decide) ?_
  refine lv_icmp_ge (tgt := 130) hx hb dX0_claim_15 (by decide) (fun c9 => ?_) (fun c9 => ?_)
  · have hB5 := if_t hB5 c9
    exact kE8 _ (Option.some.inj hB5).symm ls H locs (lv_sub hl [] rfl) hP hD hS
  · have hB5 := if_f hB5 c9
    refine lv_iload hx hb dX0_claim_18 (lv_at hl 5 rfl) ?_
    refine lv_aload_n hx hb dX0_claim_20 rfl (lv_at hl 1 rfl) ?_
    refine va_get (D := D) (ci := 1) (v := .ref (b 4)) (C := RX1) (T := TX1) (N := 8) hx hb hts hiRX1 hown hK hP 4 rfl rfl 4 (by decide) hf45 (fun _ h9 => h9) rfl dX0_claim_21 ?_
    refine lv_iload_n hx hb dX0_claim_24 rfl (lv_at hl 2 rfl) ?_
    obtain ⟨c10, hB5⟩ := gd_s hB5
    refine va_iald (D := D) hx hb hK hP 8 0 rfl rfl (ix_in c10) dX0_claim_25 ?_
    refine lv_isub hx hb dX0_claim_26 ?_
    refine lv_istore (lv' := [(6, .int (z4.1 - (S.2.2.2.2.1 (y2 : Int32).toNatClampNeg))), (0, .ref (a 0)), (1, .ref (b 0)), (2, .int y2), (3, .ref (q 0)), (4, .int (S.2.2.2.1 (y2 : Int32).toNatClampNeg)), (5, .int z4.1)]) hx hb dX0_claim_27 hl (by decide) rfl (fun ls hl => ?_)
    refine lv_iload hx hb dX0_claim_29 (lv_at hl 0 rfl) ?_
    refine lv_iload hx hb dX0_claim_31 (lv_at hl 0 rfl) ?_
    refine lv_imul hx hb dX0_claim_33 ?_
    refine lv_aload_n hx hb dX0_claim_34 rfl (lv_at hl 2 rfl) ?_
    refine va_get (D := D) (ci := 1) (v := .ref (b 5)) (C := RX1) (T := TX1) (N := 8) hx hb hts hiRX1 hown hK hP 4 rfl rfl 5 (by decide) hf39 (fun _ h9 => h9) rfl dX0_claim_35 ?_
    refine lv_iload_n hx hb dX0_claim_38 rfl (lv_at hl 3 rfl) ?_
    obtain ⟨c11, hB5⟩ := gd_s hB5
    refine va_iald (D := D) hx hb hK hP 9 0 rfl rfl (ix_in c11) dX0_claim_39 ?_
    refine lv_isub hx hb dX0_claim_40 ?_
    refine lv_istore (lv' := [(7, .int (((z4.1 - (S.2.2.2.2.1 (y2 : Int32).toNatClampNeg)) * (z4.1 - (S.2.2.2.2.1 (y2 : Int32).toNatClampNeg))) - (S.2.2.2.2.2.1 (y2 : Int32).toNatClampNeg))), (6, .int (z4.1 - (S.2.2.2.2.1 (y2 : Int32).toNatClampNeg))), (0, .ref (a 0)), (1, .ref (b 0)), (2, .int y2), (3, .ref (q 0)), (4, .int (S.2.2.2.1 (y2 : Int32).toNatClampNeg)), (5, .int z4.1)]) hx hb dX0_claim_41 hl (by decide) rfl (fun ls hl => ?_)
    refine lv_aload_n hx hb dX0_claim_43 rfl (lv_at hl 3 rfl) ?_
    refine va_get (D := D) (ci := 1) (v := .ref (b 2)) (C := RX1) (T := TX1) (N := 8) hx hb hts hiRX1 hown hK hP 4 rfl rfl 1 (by decide) hf48 (fun _ h9 => h9) rfl dX0_claim_44 ?_
    refine lv_iload hx hb dX0_claim_47 (lv_at hl 7 rfl) ?_
    obtain ⟨c12, hB5⟩ := gd_s hB5
    refine va_iald (D := D) hx hb hK hP 6 0 rfl rfl (ix_in c12) dX0_claim_49 ?_
    refine lv_istore (lv' := [(8, .int (S.2.1 (z4.1 : Int32).toNatClampNeg)), (7, .int (((z4.1 - (S.2.2.2.2.1 (y2 : Int32).toNatClampNeg)) * (z4.1 - (S.2.2.2.2.1 (y2 : Int32).toNatClampNeg))) - (S.2.2.2.2.2.1 (y2 : Int32).toNatClampNeg))), (6, .int (z4.1 - (S.2.2.2.2.1 (y2 : Int32).toNatClampNeg))), (0, .ref (a 0)), (1, .ref (b 0)), (2, .int y2), (3, .ref (q 0)), (4, .int (S.2.2.2.1 (y2 : Int32).toNatClampNeg)), (5, .int z4.1)]) hx hb dX0_claim_50 hl (by decide) rfl (fun ls hl => ?_)
    refine lv_aload_n hx hb dX0_claim_52 rfl (lv_at hl 4 rfl) ?_
    refine va_get (D := D) (ci := 1) (v := .ref (b 1)) (C := RX1) (T := TX1) (N := 8) hx hb hts hiRX1 hown hK hP 4 rfl rfl 0 (by decide) hf51 (fun _ h9 => h9) rfl dX0_claim_53 ?_
    refine lv_iload hx hb dX0_claim_56 (lv_at hl 8 rfl) ?_
    obtain ⟨c13, hB5⟩ := gd_s hB5
    refine va_iald (D := D) hx hb hK hP 5 0 rfl rfl (ix_in c13) dX0_claim_58 ?_
    refine lv_istore (lv' := [(9, .int (S.1 (z4.1 : Int32).toNatClampNeg)), (8, .int (S.2.1 (z4.1 : Int32).toNatClampNeg)), (7, .int (((z4.1 - (S.2.2.2.2.1 (y2 : Int32).toNatClampNeg)) * (z4.1 - (S.2.2.2.2.1 (y2 : Int32).toNatClampNeg))) - (S.2.2.2.2.2.1 (y2 : Int32).toNatClampNeg))), (6, .int (z4.1 - (S.2.2.2.2.1 (y2 : Int32).toNatClampNeg))), (0, .ref (a 0)), (1, .ref (b 0)), (2, .int y2), (3, .ref (q 0)), (4, .int (S.2.2.2.1 (y2 : Int32).toNatClampNeg)), (5, .int z4.1)]) hx hb dX0_claim_59 hl (by decide) rfl (fun ls hl => ?_)
    obtain ⟨x14, h15, hB5⟩ := bd_s hB5
    have K29 : ∀ (ls : Array Slot) (H : Heap) (locs : List Loc), lv_has ls 13 [(0, .ref (a 0)), (1, .ref (b 0)), (2, .int y2), (3, .ref (q 0)), (4, .int (S.2.2.2.1 (y2 : Int32).toNatClampNeg)), (5, .int z4.1)] → va_P D vwCl (cellsW k a x14.1 ++ (sceneW k b S ++ (arrW k q 256 x14.2))) H → va_D A0 (cellsW k a x14.1 ++ (sceneW k b S ++ (arrW k q 256 x14.2))) → va_S A0 s.heap H locs → W p l e rm_X0_claim s m args below meth c H locs 0 0 Q (F0 m 124 ls []) := by
      intro ls H locs hl hP hD hS
      refine lv_iinc (v := (z4.1 + 1)) (lv' := [(5, .int (z4.1 + 1)), (0, .ref (a 0)), (1, .ref (b 0)), (2, .int y2), (3, .ref (q 0)), (4, .int (S.2.2.2.1 (y2 : Int32).toNatClampNeg))]) hx hb dX0_claim_124 hl (k := 5) rfl rfl (by decide) rfl (fun ls hl => ?_)
      refine lv_goto (tgt := 11) hx hb dX0_claim_127 (by decide) ?_
      exact kI7 _ (Option.some.inj hB5).symm ls H locs (lv_sub hl [1, 2, 3, 4, 5, 0] rfl) hP hD hS
    refine lp_W (P := fun z16 => ∀ (ls : Array Slot) (H : Heap) (locs : List Loc), lv_has ls 13 [(0, .ref (a 0)), (1, .ref (b 0)), (2, .int y2), (3, .ref (q 0)), (4, .int (S.2.2.2.1 (y2 : Int32).toNatClampNeg)), (5, .int z4.1), (7, .int (((z4.1 - (S.2.2.2.2.1 (y2 : Int32).toNatClampNeg)) * (z4.1 - (S.2.2.2.2.1 (y2 : Int32).toNatClampNeg))) - (S.2.2.2.2.2.1 (y2 : Int32).toNatClampNeg))), (8, .int (S.2.1 (z4.1 : Int32).toNatClampNeg)), (9, .int z16.1)] → va_P D vwCl (cellsW k a z16.2.1 ++ (sceneW k b S ++ (arrW k q 256 z16.2.2))) H → va_D A0 (cellsW k a z16.2.1 ++ (sceneW k b S ++ (arrW k q 256 z16.2.2))) → va_S A0 s.heap H locs → W p l e rm_X0_claim s m args below meth c H locs 0 0 Q (F0 m 61 ls [])) (E := fun x14 => ∀ (ls : Array Slot) (H : Heap) (locs : List Loc), lv_has ls 13 [(0, .ref (a 0)), (1, .ref (b 0)), (2, .int y2), (3, .ref (q 0)), (4, .int (S.2.2.2.1 (y2 : Int32).toNatClampNeg)), (5, .int z4.1)] → va_P D vwCl (cellsW k a x14.1 ++ (sceneW k b S ++ (arrW k q 256 x14.2))) H → va_D A0 (cellsW k a x14.1 ++ (sceneW k b S ++ (arrW k q 256 x14.2))) → va_S A0 s.heap H locs → W p l e rm_X0_claim s m args below meth c H locs 0 0 Q (F0 m 124 ls [])) (fun z16 xx18 hB17 kI19 kE20 => ?_) _ _ _ h15 K29 ls H locs (lv_sub hl [4, 5, 6, 7, 8, 9, 2, 1, 0] rfl) hP hD hS
    intro ls H locs hl hP hD hS
    unfold f_X0_claim_L61 at hB17
    refine lv_iload hx hb dX0_claim_61 (lv_at hl 8 rfl) ?_
    refine lv_iload hx hb dX0_claim_63 (lv_at hl 7 rfl) ?_
    refine lv_icmp_gt (tgt := 124) hx hb dX0_claim_65 (by decide) (fun c21 => ?_) (fun c21 => ?_)
    · have hB17 := if_t hB17 c21
      exact kE20 _ (Option.some.inj hB17).symm ls H locs (lv_sub hl [0, 1, 2, 3, 4, 5] rfl) hP hD hS
    · have hB17 := if_f hB17 c21
      refine lv_iload hx hb dX0_claim_68 (lv_at hl 8 rfl) ?_
      refine lv_iload hx hb dX0_claim_70 (lv_at hl 4 rfl) ?_
      refine lv_isub hx hb dX0_claim_72 ?_
      refine lv_istore (lv' := [(10, .int (z16.1 - (S.2.2.2.1 (y2 : Int32).toNatClampNeg))), (0, .ref (a 0)), (1, .ref (b 0)), (2, .int y2), (3, .ref (q 0)), (4, .int (S.2.2.2.1 (y2 : Int32).toNatClampNeg)), (5, .int z4.1), (7, .int (((z4.1 - (S.2.2.2.2.1 (y2 : Int32).toNatClampNeg)) * (z4.1 - (S.2.2.2.2.1 (y2 : Int32).toNatClampNeg))) - (S.2.2.2.2.2.1 (y2 : Int32).toNatClampNeg))), (8, .int (S.2.1 (z4.1 : Int32).toNatClampNeg)), (9, .int z16.1)]) hx hb dX0_claim_73 hl (by decide) rfl (fun ls hl => ?_)
      refine lv_iload hx hb dX0_claim_75 (lv_at hl 0 rfl) ?_
      refine lv_iload hx hb dX0_claim_77 (lv_at hl 0 rfl) ?_
      refine lv_imul hx hb dX0_claim_79 ?_
      refine lv_iload hx hb dX0_claim_80 (lv_at hl 7 rfl) ?_
      refine lv_iadd hx hb dX0_claim_82 ?_
      refine lv_istore (lv' := [(11, .int (((z16.1 - (S.2.2.2.1 (y2 : Int32).toNatClampNeg)) * (z16.1 - (S.2.2.2.1 (y2 : Int32).toNatClampNeg))) + (((z4.1 - (S.2.2.2.2.1 (y2 : Int32).toNatClampNeg)) * (z4.1 - (S.2.2.2.2.1 (y2 : Int32).toNatClampNeg))) - (S.2.2.2.2.2.1 (y2 : Int32).toNatClampNeg)))), (10, .int (z16.1 - (S.2.2.2.1 (y2 : Int32).toNatClampNeg))), (0, .ref (a 0)), (1, .ref (b 0)), (2, .int y2), (3, .ref (q 0)), (4, .int (S.2.2.2.1 (y2 : Int32).toNatClampNeg)), (5, .int z4.1), (7, .int (((z4.1 - (S.2.2.2.2.1 (y2 : Int32).toNatClampNeg)) * (z4.1 - (S.2.2.2.2.1 (y2 : Int32).toNatClampNeg))) - (S.2.2.2.2.2.1 (y2 : Int32).toNatClampNeg))), (8, .int (S.2.1 (z4.1 : Int32).toNatClampNeg)), (9, .int z16.1)]) hx hb dX0_claim_83 hl (by decide) rfl (fun ls hl => ?_)
      refine lv_iload hx hb dX0_claim_85 (lv_at hl 7 rfl) ?_
      refine lv_bipush (v := 16) hx hb dX0_claim_87 (by decide) ?_
      refine lv_imul hx hb dX0_claim_89 ?_
      refine lv_iload hx hb dX0_claim_90 (lv_at hl 10 rfl) ?_
      refine lv_iadd hx hb dX0_claim_92 ?_
      refine lv_istore (lv' := [(12, .int ((z4.1 * 16) + z16.1)), (11, .int (((z16.1 - (S.2.2.2.1 (y2 : Int32).toNatClampNeg)) * (z16.1 - (S.2.2.2.1 (y2 : Int32).toNatClampNeg))) + (((z4.1 - (S.2.2.2.2.1 (y2 : Int32).toNatClampNeg)) * (z4.1 - (S.2.2.2.2.1 (y2 : Int32).toNatClampNeg))) - (S.2.2.2.2.2.1 (y2 : Int32).toNatClampNeg)))), (10, .int (z16.1 - (S.2.2.2.1 (y2 : Int32).toNatClampNeg))), (0, .ref (a 0)), (1, .ref (b 0)), (2, .int y2), (3, .ref (q 0)), (4, .int (S.2.2.2.1 (y2 : Int32).toNatClampNeg)), (5, .int z4.1), (7, .int (((z4.1 - (S.2.2.2.2.1 (y2 : Int32).toNatClampNeg)) * (z4.1 - (S.2.2.2.2.1 (y2 : Int32).toNatClampNeg))) - (S.2.2.2.2.2.1 (y2 : Int32).toNatClampNeg))), (8, .int (S.2.1 (z4.1 : Int32).toNatClampNeg)), (9, .int z16.1)]) hx hb dX0_claim_93 hl (by decide) rfl (fun ls hl => ?_)
      refine lv_iload hx hb dX0_claim_95 (lv_at hl 1 rfl) ?_
      refine lv_aload_n hx hb dX0_claim_97 rfl (lv_at hl 6 rfl) ?_
      refine lv_iload hx hb dX0_claim_98 (lv_at hl 0 rfl) ?_
      obtain ⟨c22, hB17⟩ := gd_s hB17
      refine va_iald (D := D) hx hb hK hP 12 0 rfl rfl (ix_in c22) dX0_claim_100 ?_
      obtain ⟨x23, h24, hB17⟩ := bd_s hB17
      have K25 : ∀ (ls : Array Slot) (H : Heap) (locs : List Loc), lv_has ls 13 [(0, .ref (a 0)), (1, .ref (b 0)), (2, .int y2), (3, .ref (q 0)), (4, .int (S.2.2.2.1 (y2 : Int32).toNatClampNeg)), (5, .int z4.1), (7, .int (((z4.1 - (S.2.2.2.2.1 (y2 : Int32).toNatClampNeg)) * (z4.1 - (S.2.2.2.2.1 (y2 : Int32).toNatClampNeg))) - (S.2.2.2.2.2.1 (y2 : Int32).toNatClampNeg))), (8, .int (S.2.1 (z4.1 : Int32).toNatClampNeg)), (9, .int z16.1)] → va_P D vwCl (cellsW k a x23.1 ++ (sceneW k b S ++ (arrW k q 256 x23.2))) H → va_D A0 (cellsW k a x23.1 ++ (sceneW k b S ++ (arrW k q 256 x23.2))) → va_S A0 s.heap H locs → W p l e rm_X0_claim s m args below meth c H locs 0 0 Q (F0 m 118 ls []) := by
        intro ls H locs hl hP hD hS
        refine lv_iinc (v := (z16.1 + 1)) (lv' := [(9, .int (z16.1 + 1)), (0, .ref (a 0)), (1, .ref (b 0)), (2, .int y2), (3, .ref (q 0)), (4, .int (S.2.2.2.1 (y2 : Int32).toNatClampNeg)), (5, .int z4.1), (7, .int (((z4.1 - (S.2.2.2.2.1 (y2 : Int32).toNatClampNeg)) * (z4.1 - (S.2.2.2.2.1 (y2 : Int32).toNatClampNeg))) - (S.2.2.2.2.2.1 (y2 : Int32).toNatClampNeg))), (8, .int (S.2.1 (z4.1 : Int32).toNatClampNeg))]) hx hb dX0_claim_118 hl (k := 8) rfl rfl (by decide) rfl (fun ls hl => ?_)
        refine lv_goto (tgt := 61) hx hb dX0_claim_121 (by decide) ?_
        exact kI19 _ (Option.some.inj hB17).symm ls H locs (lv_sub hl [1, 2, 3, 4, 5, 6, 7, 8, 0] rfl) hP hD hS
      refine lv_icmp_ge (tgt := 118) hx hb dX0_claim_101 (by decide) (fun c26 => ?_) (fun c26 => ?_)
      · have h24 := if_t h24 c26
        obtain rfl := Option.some.inj h24
        exact K25 ls H locs (lv_sub hl [3, 4, 5, 6, 7, 8, 9, 10, 11] rfl) hP hD hS
      · have h24 := if_f h24 c26
        refine lv_aload_n hx hb dX0_claim_104 rfl (lv_at hl 6 rfl) ?_
        refine lv_iload hx hb dX0_claim_105 (lv_at hl 0 rfl) ?_
        refine lv_iload hx hb dX0_claim_107 (lv_at hl 1 rfl) ?_
        obtain ⟨c27, h24⟩ := gd_s h24
        refine va_iast (D := D) hx hb hK hP hD hS 12 0 rfl rfl (ix_in c27) dX0_claim_109 (fun H locs hP hD hS => ?_)
        have hP : va_P D vwCl (cellsW k a z16.2.1 ++ (sceneW k b S ++ (arrW k q 256 (upd z16.2.2 (((z4.1 * 16) + z16.1) : Int32).toNatClampNeg (((z16.1 - (S.2.2.2.1 (y2 : Int32).toNatClampNeg)) * (z16.1 - (S.2.2.2.1 (y2 : Int32).toNatClampNeg))) + (((z4.1 - (S.2.2.2.2.1 (y2 : Int32).toNatClampNeg)) * (z4.1 - (S.2.2.2.2.1 (y2 : Int32).toNatClampNeg))) - (S.2.2.2.2.2.1 (y2 : Int32).toNatClampNeg))))))) H := hP
        have hD : va_D A0 (cellsW k a z16.2.1 ++ (sceneW k b S ++ (arrW k q 256 (upd z16.2.2 (((z4.1 * 16) + z16.1) : Int32).toNatClampNeg (((z16.1 - (S.2.2.2.1 (y2 : Int32).toNatClampNeg)) * (z16.1 - (S.2.2.2.1 (y2 : Int32).toNatClampNeg))) + (((z4.1 - (S.2.2.2.2.1 (y2 : Int32).toNatClampNeg)) * (z4.1 - (S.2.2.2.2.1 (y2 : Int32).toNatClampNeg))) - (S.2.2.2.2.2.1 (y2 : Int32).toNatClampNeg))))))) := hD
        refine lv_aload_n hx hb dX0_claim_110 rfl (lv_at hl 3 rfl) ?_
        refine va_get (D := D) (ci := 0) (v := .ref (a 1)) (C := RX0) (T := TX0) (N := 4) hx hb hts hiRX0 hown hK hP 0 rfl rfl 1 (by decide) hf15 (fun _ h9 => h9) rfl dX0_claim_111 ?_
        refine lv_iload hx hb dX0_claim_114 (lv_at hl 0 rfl) ?_
        refine lv_iload_n hx hb dX0_claim_116 rfl (lv_at hl 5 rfl) ?_
        obtain ⟨c28, h24⟩ := gd_s h24
        refine va_iast (D := D) hx hb hK hP hD hS 1 0 rfl rfl (ix_in c28) dX0_claim_117 (fun H locs hP hD hS => ?_)
        have hP : va_P D vwCl (cellsW k a ((z16.2.1).1, (upd ((z16.2.1).2.1) (((z4.1 * 16) + z16.1) : Int32).toNatClampNeg y2), (z16.2.1).2.2) ++ (sceneW k b S ++ (arrW k q 256 (upd z16.2.2 (((z4.1 * 16) + z16.1) : Int32).toNatClampNeg (((z16.1 - (S.2.2.2.1 (y2 : Int32).toNatClampNeg)) * (z16.1 - (S.2.2.2.1 (y2 : Int32).toNatClampNeg))) + (((z4.1 - (S.2.2.2.2.1 (y2 : Int32).toNatClampNeg)) * (z4.1 - (S.2.2.2.2.1 (y2 : Int32).toNatClampNeg))) - (S.2.2.2.2.2.1 (y2 : Int32).toNatClampNeg))))))) H := hP
        have hD : va_D A0 (cellsW k a ((z16.2.1).1, (upd ((z16.2.1).2.1) (((z4.1 * 16) + z16.1) : Int32).toNatClampNeg y2), (z16.2.1).2.2) ++ (sceneW k b S ++ (arrW k q 256 (upd z16.2.2 (((z4.1 * 16) + z16.1) : Int32).toNatClampNeg (((z16.1 - (S.2.2.2.1 (y2 : Int32).toNatClampNeg)) * (z16.1 - (S.2.2.2.1 (y2 : Int32).toNatClampNeg))) + (((z4.1 - (S.2.2.2.2.1 (y2 : Int32).toNatClampNeg)) * (z4.1 - (S.2.2.2.2.1 (y2 : Int32).toNatClampNeg))) - (S.2.2.2.2.2.1 (y2 : Int32).toNatClampNeg))))))) := hD
        obtain rfl := Option.some.inj h24
        exact K25 ls H locs (lv_sub hl [3, 4, 5, 6, 7, 8, 9, 10, 11] rfl) hP hD hS

abbrev rm_X0_workOut : Room := { frames := 1, cells := 0, slots := 0, locals := 32 }
def f_X0_workOut_L8 (S : SceneV) (z : Int32 × CellV × (Nat → Int32)) : Option ((Int32 × CellV × (Nat → Int32)) ⊕ (CellV × (Nat → Int32))) := if 256 ≤ z.1 then (some (.inr (z.2.1, z.2.2))) else (gd (ix z.1 256) (gd (ix z.1 256) (some (.inl ((z.1 + 1), ((z.2.1).1, (upd ((z.2.1).2.1) (z.1 : Int32).toNatClampNeg (-1)), (z.2.1).2.2), (upd z.2.2 (z.1 : Int32).toNatClampNeg 1000000000))))))
def f_X0_workOut_L39 (S : SceneV) (z : Int32 × CellV × (Nat → Int32)) : Option ((Int32 × CellV × (Nat → Int32)) ⊕ (CellV × (Nat → Int32))) := if S.2.2.1 ≤ z.1 then (some (.inr (z.2.1, z.2.2))) else ((f_X4_isIn ((z.2.1).1) z.1).bind (fun x9 => (if (b2i x9) = 0 then (some (z.2.1, z.2.2)) else ((f_X0_claim z.2.1 S z.2.2 z.1).bind (fun x15 => some (x15.1, x15.2))) : Option (CellV × (Nat → Int32))).bind (fun x11 => some (.inl ((z.1 + 1), x11.1, x11.2)))))
def f_X0_workOut_L77 (S : SceneV) (L : (Nat → Int32)) (z : Int32 × CellV) : Option ((Int32 × CellV) ⊕ (CellV)) := if 8 ≤ z.1 then (some (.inr z.2)) else (gd (ix z.1 8) (gd (ix z.1 8) (some (.inl ((z.1 + 1), ((z.2).1, (z.2).2.1, (upd ((z.2).2.2.1) (z.1 : Int32).toNatClampNeg 0), (upd ((z.2).2.2.2) (z.1 : Int32).toNatClampNeg 0)))))))
def f_X0_workOut_L109 (S : SceneV) (L : (Nat → Int32)) (z : Int32 × CellV) : Option ((Int32 × CellV) ⊕ (CellV)) := if 256 ≤ z.1 then (some (.inr z.2)) else (gd (ix z.1 256) ((if (((z.2).2.1) (z.1 : Int32).toNatClampNeg) = (-1) then (some z.2) else (gd (ix (((z.2).2.1) (z.1 : Int32).toNatClampNeg) 8) (gd (ix (((z.2).2.1) (z.1 : Int32).toNatClampNeg) 8) (gd (ix (((z.2).2.1) (z.1 : Int32).toNatClampNeg) 8) (gd (ix z.1 256) (gd (ix (((z.2).2.1) (z.1 : Int32).toNatClampNeg) 8) (gd (ix (((z.2).2.1) (z.1 : Int32).toNatClampNeg) 8) (some ((z.2).1, (z.2).2.1, (upd ((z.2).2.2.1) ((((z.2).2.1) (z.1 : Int32).toNatClampNeg) : Int32).toNatClampNeg ((((z.2).2.2.1) ((((z.2).2.1) (z.1 : Int32).toNatClampNeg) : Int32).toNatClampNeg) + 1)), (upd ((z.2).2.2.2) ((((z.2).2.1) (z.1 : Int32).toNatClampNeg) : Int32).toNatClampNeg ((((z.2).2.2.2) ((((z.2).2.1) (z.1 : Int32).toNatClampNeg) : Int32).toNatClampNeg) + ((L (z.1 : Int32).toNatClampNeg) + (S.2.2.2.2.2.1 ((((z.2).2.1) (z.1 : Int32).toNatClampNeg) : Int32).toNatClampNeg)))))))))))) : Option (CellV)).bind (fun x24 => some (.inl ((z.1 + 1), x24)))))
def f_X0_workOut (V : CellV) (S : SceneV) (L : (Nat → Int32)) (y2 : Int32) : Option (CellV × (Nat → Int32)) := (lp (f_X0_workOut_L8 S) fu (0, (y2, V.2), L)).bind (fun x1 => (lp (f_X0_workOut_L39 S) fu (0, x1.1, x1.2)).bind (fun x8 => (lp (f_X0_workOut_L77 S x8.2) fu (0, x8.1)).bind (fun x15 => (lp (f_X0_workOut_L109 S x8.2) fu (0, x15)).bind (fun x22 => some (x22, x8.2)))))
set_option maxHeartbeats 4000000 in
set_option maxRecDepth 100000 in
theorem c_X0_workOut (l : Launch) (D : va_G) (k : Nat → ClassId) (a : Nat → Nat) (b : Nat → Nat) (q : Nat → Nat) (V : CellV) (S : SceneV) (L : (Nat → Int32)) (y2 : Int32) (r : CellV × (Nat → Int32)) (h : f_X0_workOut V S L y2 = some r) : Met l yX0_workOut wsX0_workOut rm_X0_workOut (va_Pc [.ref (a 0), .ref (b 0), .int y2, .ref (q 0)] (MB D k (cellsW k a V ++ (sceneW k b S ++ (arrW k q 256 L))))) (QM D (cellsW k a V ++ (sceneW k b S ++ (arrW k q 256 L))) (cellsW k a r.1 ++ (sceneW k b S ++ (arrW k q 256 r.2))) none) 0 0 (AD (cellsW k a V ++ (sceneW k b S ++ (arrW k q 256 L)))) := by
  refine met_Mv (by decide) rfl (Nat.le_of_ble_eq_true rfl) ?_
  intro p e s m below meth c Q args ls hx hb hml hown hts hP hK hN hD hl hQ
  have hl : lv_has ls 6 [(0, .ref (a 0)), (1, .ref (b 0)), (2, .int y2), (3, .ref (q 0))] := hl
  have hown : s.vm.findClass RX0 = some m.cls := hown
  unfold f_X0_workOut at h
  have hiRX0 : ∀ w ∈ u_ws RX0 TX0 4, w ∈ wsX0_workOut := by decide +kernel
  have hiRX1 : ∀ w ∈ u_ws RX1 TX1 8, w ∈ wsX0_workOut := by decide +kernel
  have hf9 := hts (.fieldLink RX0 9 "RainCells$Cells" "set" "I") (by decide +kernel)
  have hf15 := hts (.fieldLink RX0 15 "RainCells$Cells" "owners" "[I") (by decide +kernel)
  have hf26 := hts (.fieldLink RX0 26 "RainCells$Scene" "gauges" "I") (by decide +kernel)
  have hf19 := hts (.fieldLink RX0 19 "RainCells$Cells" "plots" "[I") (by decide +kernel)
  have hf22 := hts (.fieldLink RX0 22 "RainCells$Cells" "fars" "[I") (by decide +kernel)
  have hf39 := hts (.fieldLink RX0 39 "RainCells$Scene" "reaches" "[I") (by decide +kernel)
  generalize AD (cellsW k a V ++ (sceneW k b S ++ (arrW k q 256 L))) = A0 at hD hQ
  have hS : va_S A0 s.heap s.heap [] := va_S.rf
  refine lv_aload_n hx hb dX0_workOut_0 rfl (lv_at hl 0 rfl) ?_
  refine lv_iload_n hx hb dX0_workOut_1 rfl (lv_at hl 2 rfl) ?_
  refine va_put (D := D) (ci := 0) (v := .int y2) (ty := .int) (C := RX0) (T := TX0) (N := 4) hx hb hts hiRX0 tyX0 tyX0_ok nmX0 hown hK hP hD hS 0 rfl rfl 0 (by decide) hf9 (fun _ h9 => h9) rfl (by decide +kernel) rfl rfl (Nat.le_of_ble_eq_true rfl) dX0_workOut_2 (fun H locs hP hD hS => ?_)
  have hP : va_P D vwCl (cellsW k a (y2, V.2) ++ (sceneW k b S ++ (arrW k q 256 L))) H := hP
  have hD : va_D A0 (cellsW k a (y2, V.2) ++ (sceneW k b S ++ (arrW k q 256 L))) := hD
  refine lv_iconst (v := 0) hx hb dX0_workOut_5 (by decide) ?_
  refine lv_istore (lv' := [(4, .int 0), (0, .ref (a 0)), (1, .ref (b 0)), (2, .int y2), (3, .ref (q 0))]) hx hb dX0_workOut_6 hl (by decide) rfl (fun ls hl => ?_)
  obtain ⟨x1, h2, h⟩ := bd_s h
  have K59 : ∀ (ls : Array Slot) (H : Heap) (locs : List Loc), lv_has ls 6 [(0, .ref (a 0)), (1, .ref (b 0)), (3, .ref (q 0))] → va_P D vwCl (cellsW k a x1.1 ++ (sceneW k b S ++ (arrW k q 256 x1.2))) H → va_D A0 (cellsW k a x1.1 ++ (sceneW k b S ++ (arrW k q 256 x1.2))) → va_S A0 s.heap H locs → W p l e rm_X0_workOut s m args below meth c H locs 0 0 Q (F0 m 36 ls []) := by
    intro ls H locs hl hP hD hS
    refine lv_iconst (v := 0) hx hb dX0_workOut_36 (by decide) ?_
    refine lv_istore (lv' := [(4, .int 0), (0, .ref (a 0)), (1, .ref (b 0)), (3, .ref (q 0))]) hx hb dX0_workOut_37 hl (by decide) rfl (fun ls hl => ?_)
    obtain ⟨x8, h9, h⟩ := bd_s h
    have K55 : ∀ (ls : Array Slot) (H : Heap) (locs : List Loc), lv_has ls 6 [(0, .ref (a 0)), (1, .ref (b 0)), (3, .ref (q 0))] → va_P D vwCl (cellsW k a x8.1 ++ (sceneW k b S ++ (arrW k q 256 x8.2))) H → va_D A0 (cellsW k a x8.1 ++ (sceneW k b S ++ (arrW k q 256 x8.2))) → va_S A0 s.heap H locs → W p l e rm_X0_workOut s m args below meth c H locs 0 0 Q (F0 m 74 ls []) := by
      intro ls H locs hl hP hD hS
      refine lv_iconst (v := 0) hx hb dX0_workOut_74 (by decide) ?_
      refine lv_istore (lv' := [(4, .int 0), (0, .ref (a 0)), (1, .ref (b 0)), (3, .ref (q 0))]) hx hb dX0_workOut_75 hl (by decide) rfl (fun ls hl => ?_)
      obtain ⟨x15, h16, h⟩ := bd_s h
      have K45 : ∀ (ls : Array Slot) (H : Heap) (locs : List Loc), lv_has ls 6 [(0, .ref (a 0)), (1, .ref (b 0)), (3, .ref (q 0))] → va_P D vwCl (cellsW k a x15 ++ (sceneW k b S ++ (arrW k q 256 x8.2))) H → va_D A0 (cellsW k a x15 ++ (sceneW k b S ++ (arrW k q 256 x8.2))) → va_S A0 s.heap H locs → W p l e rm_X0_workOut s m args below meth c H locs 0 0 Q (F0 m 106 ls []) := by
        intro ls H locs hl hP hD hS
        refine lv_iconst (v := 0) hx hb dX0_workOut_106 (by decide) ?_
        refine lv_istore (lv' := [(4, .int 0), (0, .ref (a 0)), (1, .ref (b 0)), (3, .ref (q 0))]) hx hb dX0_workOut_107 hl (by decide) rfl (fun ls hl => ?_)
        obtain ⟨x22, h23, h⟩ := bd_s h
        have K41 : ∀ (ls : Array Slot) (H : Heap) (locs : List Loc), lv_has ls 6 [] → va_P D vwCl (cellsW k a x22 ++ (sceneW k b S ++ (arrW k q 256 x8.2))) H → va_D A0 (cellsW k a x22 ++ (sceneW k b S ++ (arrW k q 256 x8.2))) → va_S A0 s.heap H locs → W p l e rm_X0_workOut s m args below meth c H locs 0 0 Q (F0 m 171 ls []) := by
          intro ls H locs hl hP hD hS
          obtain rfl := Option.some.inj h
          exact hQ _ _ _ _ dX0_workOut_171 hP hS
        refine lp_W (P := fun z24 => ∀ (ls : Array Slot) (H : Heap) (locs : List Loc), lv_has ls 6 [(0, .ref (a 0)), (1, .ref (b 0)), (3, .ref (q 0)), (4, .int z24.1)] → va_P D vwCl (cellsW k a z24.2 ++ (sceneW k b S ++ (arrW k q 256 x8.2))) H → va_D A0 (cellsW k a z24.2 ++ (sceneW k b S ++ (arrW k q 256 x8.2))) → va_S A0 s.heap H locs → W p l e rm_X0_workOut s m args below meth c H locs 0 0 Q (F0 m 109 ls [])) (E := fun x22 => ∀ (ls : Array Slot) (H : Heap) (locs : List Loc), lv_has ls 6 [] → va_P D vwCl (cellsW k a x22 ++ (sceneW k b S ++ (arrW k q 256 x8.2))) H → va_D A0 (cellsW k a x22 ++ (sceneW k b S ++ (arrW k q 256 x8.2))) → va_S A0 s.heap H locs → W p l e rm_X0_workOut s m args below meth c H locs 0 0 Q (F0 m 171 ls [])) (fun z24 xx26 hB25 kI27 kE28 => ?_) _ _ _ h23 K41 ls H locs (lv_sub hl [1, 2, 3, 0] rfl) hP hD hS
        intro ls H locs hl hP hD hS
        unfold f_X0_workOut_L109 at hB25
        refine lv_iload hx hb dX0_workOut_109 (lv_at hl 3 rfl) ?_
        refine lv_sipush (v := 256) hx hb dX0_workOut_111 (by decide) ?_
        refine lv_icmp_ge (tgt := 171) hx hb dX0_workOut_114 (by decide) (fun c29 => ?_) (fun c29 => ?_)
        · have hB25 := if_t hB25 c29
          exact kE28 _ (Option.some.inj hB25).symm ls H locs (lv_sub hl [] rfl) hP hD hS
        · have hB25 := if_f hB25 c29
          refine lv_aload_n hx hb dX0_workOut_117 rfl (lv_at hl 0 rfl) ?_
          refine va_get (D := D) (ci := 0) (v := .ref (a 1)) (C := RX0) (T := TX0) (N := 4) hx hb hts hiRX0 hown hK hP 0 rfl rfl 1 (by decide) hf15 (fun _ h9 => h9) rfl dX0_workOut_118 ?_
          refine lv_iload hx hb dX0_workOut_121 (lv_at hl 3 rfl) ?_
          obtain ⟨c30, hB25⟩ := gd_s hB25
          refine va_iald (D := D) hx hb hK hP 1 0 rfl rfl (ix_in c30) dX0_workOut_123 ?_
          refine lv_istore (lv' := [(5, .int (((z24.2).2.1) (z24.1 : Int32).toNatClampNeg)), (0, .ref (a 0)), (1, .ref (b 0)), (3, .ref (q 0)), (4, .int z24.1)]) hx hb dX0_workOut_124 hl (by decide) rfl (fun ls hl => ?_)
          refine lv_iload hx hb dX0_workOut_126 (lv_at hl 0 rfl) ?_
          refine lv_iconst (v := (-1)) hx hb dX0_workOut_128 (by decide) ?_
          obtain ⟨x31, h32, hB25⟩ := bd_s hB25
          have K33 : ∀ (ls : Array Slot) (H : Heap) (locs : List Loc), lv_has ls 6 [(0, .ref (a 0)), (1, .ref (b 0)), (3, .ref (q 0)), (4, .int z24.1)] → va_P D vwCl (cellsW k a x31 ++ (sceneW k b S ++ (arrW k q 256 x8.2))) H → va_D A0 (cellsW k a x31 ++ (sceneW k b S ++ (arrW k q 256 x8.2))) → va_S A0 s.heap H locs → W p l e rm_X0_workOut s m args below meth c H locs 0 0 Q (F0 m 165 ls []) := by
            intro ls H locs hl hP hD hS
            refine lv_iinc (v := (z24.1 + 1)) (lv' := [(4, .int (z24.1 + 1)), (0, .ref (a 0)), (1, .ref (b 0)), (3, .ref (q 0))]) hx hb dX0_workOut_165 hl (k := 3) rfl rfl (by decide) rfl (fun ls hl => ?_)
            refine lv_goto (tgt := 109) hx hb dX0_workOut_168 (by decide) ?_
            exact kI27 _ (Option.some.inj hB25).symm ls H locs (lv_sub hl [1, 2, 3, 0] rfl) hP hD hS
          refine lv_icmp_eq (tgt := 165) hx hb dX0_workOut_129 (by decide) (fun c34 => ?_) (fun c34 => ?_)
          · have h32 := if_t h32 c34
            obtain rfl := Option.some.inj h32
            exact K33 ls H locs (lv_sub hl [1, 2, 3, 4] rfl) hP hD hS
          · have h32 := if_f h32 c34
            refine lv_aload_n hx hb dX0_workOut_132 rfl (lv_at hl 1 rfl) ?_
            refine va_get (D := D) (ci := 0) (v := .ref (a 2)) (C := RX0) (T := TX0) (N := 4) hx hb hts hiRX0 hown hK hP 0 rfl rfl 2 (by decide) hf19 (fun _ h9 => h9) rfl dX0_workOut_133 ?_
            refine lv_iload hx hb dX0_workOut_136 (lv_at hl 0 rfl) ?_
            refine lv_dup2_11 hx hb dX0_workOut_138 rfl rfl ?_
            obtain ⟨c35, h32⟩ := gd_s h32
            refine va_iald (D := D) hx hb hK hP 2 0 rfl rfl (ix_in c35) dX0_workOut_139 ?_
            refine lv_iconst (v := 1) hx hb dX0_workOut_140 (by decide) ?_
            refine lv_iadd hx hb dX0_workOut_141 ?_
            obtain ⟨c36, h32⟩ := gd_s h32
            refine va_iast (D := D) hx hb hK hP hD hS 2 0 rfl rfl (ix_in c36) dX0_workOut_142 (fun H locs hP hD hS => ?_)
            have hP : va_P D vwCl (cellsW k a ((z24.2).1, (z24.2).2.1, (upd ((z24.2).2.2.1) ((((z24.2).2.1) (z24.1 : Int32).toNatClampNeg) : Int32).toNatClampNeg ((((z24.2).2.2.1) ((((z24.2).2.1) (z24.1 : Int32).toNatClampNeg) : Int32).toNatClampNeg) + 1)), (z24.2).2.2.2) ++ (sceneW k b S ++ (arrW k q 256 x8.2))) H := hP
            have hD : va_D A0 (cellsW k a ((z24.2).1, (z24.2).2.1, (upd ((z24.2).2.2.1) ((((z24.2).2.1) (z24.1 : Int32).toNatClampNeg) : Int32).toNatClampNeg ((((z24.2).2.2.1) ((((z24.2).2.1) (z24.1 : Int32).toNatClampNeg) : Int32).toNatClampNeg) + 1)), (z24.2).2.2.2) ++ (sceneW k b S ++ (arrW k q 256 x8.2))) := hD
            refine lv_aload_n hx hb dX0_workOut_143 rfl (lv_at hl 1 rfl) ?_
            refine va_get (D := D) (ci := 0) (v := .ref (a 3)) (C := RX0) (T := TX0) (N := 4) hx hb hts hiRX0 hown hK hP 0 rfl rfl 3 (by decide) hf22 (fun _ h9 => h9) rfl dX0_workOut_144 ?_
            refine lv_iload hx hb dX0_workOut_147 (lv_at hl 0 rfl) ?_
            refine lv_dup2_11 hx hb dX0_workOut_149 rfl rfl ?_
            obtain ⟨c37, h32⟩ := gd_s h32
            refine va_iald (D := D) hx hb hK hP 3 0 rfl rfl (ix_in c37) dX0_workOut_150 ?_
            refine lv_aload_n hx hb dX0_workOut_151 rfl (lv_at hl 3 rfl) ?_
            refine lv_iload hx hb dX0_workOut_152 (lv_at hl 4 rfl) ?_
            obtain ⟨c38, h32⟩ := gd_s h32
            refine va_iald (D := D) hx hb hK hP 12 0 rfl rfl (ix_in c38) dX0_workOut_154 ?_
            refine lv_aload_n hx hb dX0_workOut_155 rfl (lv_at hl 2 rfl) ?_
            refine va_get (D := D) (ci := 1) (v := .ref (b 5)) (C := RX1) (T := TX1) (N := 8) hx hb hts hiRX1 hown hK hP 4 rfl rfl 5 (by decide) hf39 (fun _ h9 => h9) rfl dX0_workOut_156 ?_
            refine lv_iload hx hb dX0_workOut_159 (lv_at hl 0 rfl) ?_
            obtain ⟨c39, h32⟩ := gd_s h32
            refine va_iald (D := D) hx hb hK hP 9 0 rfl rfl (ix_in c39) dX0_workOut_161 ?_
            refine lv_iadd hx hb dX0_workOut_162 ?_
            refine lv_iadd hx hb dX0_workOut_163 ?_
            obtain ⟨c40, h32⟩ := gd_s h32
            refine va_iast (D := D) hx hb hK hP hD hS 3 0 rfl rfl (ix_in c40) dX0_workOut_164 (fun H locs hP hD hS => ?_)
            have hP : va_P D vwCl (cellsW k a ((z24.2).1, (z24.2).2.1, (upd ((z24.2).2.2.1) ((((z24.2).2.1) (z24.1 : Int32).toNatClampNeg) : Int32).toNatClampNeg ((((z24.2).2.2.1) ((((z24.2).2.1) (z24.1 : Int32).toNatClampNeg) : Int32).toNatClampNeg) + 1)), (upd ((z24.2).2.2.2) ((((z24.2).2.1) (z24.1 : Int32).toNatClampNeg) : Int32).toNatClampNeg ((((z24.2).2.2.2) ((((z24.2).2.1) (z24.1 : Int32).toNatClampNeg) : Int32).toNatClampNeg) + ((x8.2 (z24.1 : Int32).toNatClampNeg) + (S.2.2.2.2.2.1 ((((z24.2).2.1) (z24.1 : Int32).toNatClampNeg) : Int32).toNatClampNeg))))) ++ (sceneW k b S ++ (arrW k q 256 x8.2))) H := hP
            have hD : va_D A0 (cellsW k a ((z24.2).1, (z24.2).2.1, (upd ((z24.2).2.2.1) ((((z24.2).2.1) (z24.1 : Int32).toNatClampNeg) : Int32).toNatClampNeg ((((z24.2).2.2.1) ((((z24.2).2.1) (z24.1 : Int32).toNatClampNeg) : Int32).toNatClampNeg) + 1)), (upd ((z24.2).2.2.2) ((((z24.2).2.1) (z24.1 : Int32).toNatClampNeg) : Int32).toNatClampNeg ((((z24.2).2.2.2) ((((z24.2).2.1) (z24.1 : Int32).toNatClampNeg) : Int32).toNatClampNeg) + ((x8.2 (z24.1 : Int32).toNatClampNeg) + (S.2.2.2.2.2.1 ((((z24.2).2.1) (z24.1 : Int32).toNatClampNeg) : Int32).toNatClampNeg))))) ++ (sceneW k b S ++ (arrW k q 256 x8.2))) := hD
            obtain rfl := Option.some.inj h32
            exact K33 ls H locs (lv_sub hl [1, 2, 3, 4] rfl) hP hD hS
      refine lp_W (P := fun z17 => ∀ (ls : Array Slot) (H : Heap) (locs : List Loc), lv_has ls 6 [(0, .ref (a 0)), (1, .ref (b 0)), (3, .ref (q 0)), (4, .int z17.1)] → va_P D vwCl (cellsW k a z17.2 ++ (sceneW k b S ++ (arrW k q 256 x8.2))) H → va_D A0 (cellsW k a z17.2 ++ (sceneW k b S ++ (arrW k q 256 x8.2))) → va_S A0 s.heap H locs → W p l e rm_X0_workOut s m args below meth c H locs 0 0 Q (F0 m 77 ls [])) (E := fun x15 => ∀ (ls : Array Slot) (H : Heap) (locs : List Loc), lv_has ls 6 [(0, .ref (a 0)), (1, .ref (b 0)), (3, .ref (q 0))] → va_P D vwCl (cellsW k a x15 ++ (sceneW k b S ++ (arrW k q 256 x8.2))) H → va_D A0 (cellsW k a x15 ++ (sceneW k b S ++ (arrW k q 256 x8.2))) → va_S A0 s.heap H locs → W p l e rm_X0_workOut s m args below meth c H locs 0 0 Q (F0 m 106 ls [])) (fun z17 xx19 hB18 kI20 kE21 => ?_) _ _ _ h16 K45 ls H locs (lv_sub hl [1, 2, 3, 0] rfl) hP hD hS
      intro ls H locs hl hP hD hS
      unfold f_X0_workOut_L77 at hB18
      refine lv_iload hx hb dX0_workOut_77 (lv_at hl 3 rfl) ?_
      refine lv_bipush (v := 8) hx hb dX0_workOut_79 (by decide) ?_
      refine lv_icmp_ge (tgt := 106) hx hb dX0_workOut_81 (by decide) (fun c42 => ?_) (fun c42 => ?_)
      · have hB18 := if_t hB18 c42
        exact kE21 _ (Option.some.inj hB18).symm ls H locs (lv_sub hl [0, 1, 2] rfl) hP hD hS
      · have hB18 := if_f hB18 c42
        refine lv_aload_n hx hb dX0_workOut_84 rfl (lv_at hl 0 rfl) ?_
        refine va_get (D := D) (ci := 0) (v := .ref (a 2)) (C := RX0) (T := TX0) (N := 4) hx hb hts hiRX0 hown hK hP 0 rfl rfl 2 (by decide) hf19 (fun _ h9 => h9) rfl dX0_workOut_85 ?_
        refine lv_iload hx hb dX0_workOut_88 (lv_at hl 3 rfl) ?_
        refine lv_iconst (v := 0) hx hb dX0_workOut_90 (by decide) ?_
        obtain ⟨c43, hB18⟩ := gd_s hB18
        refine va_iast (D := D) hx hb hK hP hD hS 2 0 rfl rfl (ix_in c43) dX0_workOut_91 (fun H locs hP hD hS => ?_)
        have hP : va_P D vwCl (cellsW k a ((z17.2).1, (z17.2).2.1, (upd ((z17.2).2.2.1) (z17.1 : Int32).toNatClampNeg 0), (z17.2).2.2.2) ++ (sceneW k b S ++ (arrW k q 256 x8.2))) H := hP
        have hD : va_D A0 (cellsW k a ((z17.2).1, (z17.2).2.1, (upd ((z17.2).2.2.1) (z17.1 : Int32).toNatClampNeg 0), (z17.2).2.2.2) ++ (sceneW k b S ++ (arrW k q 256 x8.2))) := hD
        refine lv_aload_n hx hb dX0_workOut_92 rfl (lv_at hl 0 rfl) ?_
        refine va_get (D := D) (ci := 0) (v := .ref (a 3)) (C := RX0) (T := TX0) (N := 4) hx hb hts hiRX0 hown hK hP 0 rfl rfl 3 (by decide) hf22 (fun _ h9 => h9) rfl dX0_workOut_93 ?_
        refine lv_iload hx hb dX0_workOut_96 (lv_at hl 3 rfl) ?_
        refine lv_iconst (v := 0) hx hb dX0_workOut_98 (by decide) ?_
        obtain ⟨c44, hB18⟩ := gd_s hB18
        refine va_iast (D := D) hx hb hK hP hD hS 3 0 rfl rfl (ix_in c44) dX0_workOut_99 (fun H locs hP hD hS => ?_)
        have hP : va_P D vwCl (cellsW k a ((z17.2).1, (z17.2).2.1, (upd ((z17.2).2.2.1) (z17.1 : Int32).toNatClampNeg 0), (upd ((z17.2).2.2.2) (z17.1 : Int32).toNatClampNeg 0)) ++ (sceneW k b S ++ (arrW k q 256 x8.2))) H := hP
        have hD : va_D A0 (cellsW k a ((z17.2).1, (z17.2).2.1, (upd ((z17.2).2.2.1) (z17.1 : Int32).toNatClampNeg 0), (upd ((z17.2).2.2.2) (z17.1 : Int32).toNatClampNeg 0)) ++ (sceneW k b S ++ (arrW k q 256 x8.2))) := hD
        refine lv_iinc (v := (z17.1 + 1)) (lv' := [(4, .int (z17.1 + 1)), (0, .ref (a 0)), (1, .ref (b 0)), (3, .ref (q 0))]) hx hb dX0_workOut_100 hl (k := 3) rfl rfl (by decide) rfl (fun ls hl => ?_)
        refine lv_goto (tgt := 77) hx hb dX0_workOut_103 (by decide) ?_
        exact kI20 _ (Option.some.inj hB18).symm ls H locs (lv_sub hl [1, 2, 3, 0] rfl) hP hD hS
    refine lp_W (P := fun z10 => ∀ (ls : Array Slot) (H : Heap) (locs : List Loc), lv_has ls 6 [(0, .ref (a 0)), (1, .ref (b 0)), (3, .ref (q 0)), (4, .int z10.1)] → va_P D vwCl (cellsW k a z10.2.1 ++ (sceneW k b S ++ (arrW k q 256 z10.2.2))) H → va_D A0 (cellsW k a z10.2.1 ++ (sceneW k b S ++ (arrW k q 256 z10.2.2))) → va_S A0 s.heap H locs → W p l e rm_X0_workOut s m args below meth c H locs 0 0 Q (F0 m 39 ls [])) (E := fun x8 => ∀ (ls : Array Slot) (H : Heap) (locs : List Loc), lv_has ls 6 [(0, .ref (a 0)), (1, .ref (b 0)), (3, .ref (q 0))] → va_P D vwCl (cellsW k a x8.1 ++ (sceneW k b S ++ (arrW k q 256 x8.2))) H → va_D A0 (cellsW k a x8.1 ++ (sceneW k b S ++ (arrW k q 256 x8.2))) → va_S A0 s.heap H locs → W p l e rm_X0_workOut s m args below meth c H locs 0 0 Q (F0 m 74 ls [])) (fun z10 xx12 hB11 kI13 kE14 => ?_) _ _ _ h9 K55 ls H locs (lv_sub hl [1, 2, 3, 0] rfl) hP hD hS
    intro ls H locs hl hP hD hS
    unfold f_X0_workOut_L39 at hB11
    refine lv_iload hx hb dX0_workOut_39 (lv_at hl 3 rfl) ?_
    refine lv_aload_n hx hb dX0_workOut_41 rfl (lv_at hl 1 rfl) ?_
    refine va_get (D := D) (ci := 1) (v := .int S.2.2.1) (C := RX1) (T := TX1) (N := 8) hx hb hts hiRX1 hown hK hP 4 rfl rfl 2 (by decide) hf26 (fun _ h9 => h9) rfl dX0_workOut_42 ?_
    refine lv_icmp_ge (tgt := 74) hx hb dX0_workOut_45 (by decide) (fun c46 => ?_) (fun c46 => ?_)
    · have hB11 := if_t hB11 c46
      exact kE14 _ (Option.some.inj hB11).symm ls H locs (lv_sub hl [0, 1, 2] rfl) hP hD hS
    · have hB11 := if_f hB11 c46
      refine lv_aload_n hx hb dX0_workOut_48 rfl (lv_at hl 0 rfl) ?_
      refine va_get (D := D) (ci := 0) (v := .int ((z10.2.1).1)) (C := RX0) (T := TX0) (N := 4) hx hb hts hiRX0 hown hK hP 0 rfl rfl 0 (by decide) hf9 (fun _ h9 => h9) rfl dX0_workOut_49 ?_
      refine lv_iload hx hb dX0_workOut_52 (lv_at hl 3 rfl) ?_
      obtain ⟨x47, h48, hB11⟩ := bd_s hB11
      refine cR_N (As := [.int ((z10.2.1).1), .int z10.1]) (rest := []) (n := 2) (v := .int (b2i x47)) hx hb hml hown hts hK hN hl.1 (c_X4_isIn l D k ((z10.2.1).1) z10.1 x47 h48) hN.2.1 ggX0_workOut_X4_isIn rfl (hts (.static yX4_isIn) (by decide +kernel)) (hts (.initialized RX4) (by decide +kernel)) (by decide +kernel) ⟨⟨rfl, rfl⟩, by decide, by decide⟩ va_P_nil rfl rfl (Nat.le_of_ble_eq_true rfl) dX0_workOut_54 ⟨Nat.zero_le _, Nat.zero_le _⟩ ?_
      obtain ⟨x49, h50, hB11⟩ := bd_s hB11
      have K51 : ∀ (ls : Array Slot) (H : Heap) (locs : List Loc), lv_has ls 6 [(0, .ref (a 0)), (1, .ref (b 0)), (3, .ref (q 0)), (4, .int z10.1)] → va_P D vwCl (cellsW k a x49.1 ++ (sceneW k b S ++ (arrW k q 256 x49.2))) H → va_D A0 (cellsW k a x49.1 ++ (sceneW k b S ++ (arrW k q 256 x49.2))) → va_S A0 s.heap H locs → W p l e rm_X0_workOut s m args below meth c H locs 0 0 Q (F0 m 68 ls []) := by
        intro ls H locs hl hP hD hS
        refine lv_iinc (v := (z10.1 + 1)) (lv' := [(4, .int (z10.1 + 1)), (0, .ref (a 0)), (1, .ref (b 0)), (3, .ref (q 0))]) hx hb dX0_workOut_68 hl (k := 3) rfl rfl (by decide) rfl (fun ls hl => ?_)
        refine lv_goto (tgt := 39) hx hb dX0_workOut_71 (by decide) ?_
        exact kI13 _ (Option.some.inj hB11).symm ls H locs (lv_sub hl [1, 2, 3, 0] rfl) hP hD hS
      refine lv_if_eq (tgt := 68) hx hb dX0_workOut_57 (by decide) (fun c52 => ?_) (fun c52 => ?_)
      · have h50 := if_t h50 c52
        obtain rfl := Option.some.inj h50
        exact K51 ls H locs (lv_sub hl [0, 1, 2, 3] rfl) hP hD hS
      · have h50 := if_f h50 c52
        refine lv_aload_n hx hb dX0_workOut_60 rfl (lv_at hl 0 rfl) ?_
        refine lv_aload_n hx hb dX0_workOut_61 rfl (lv_at hl 1 rfl) ?_
        refine lv_iload hx hb dX0_workOut_62 (lv_at hl 3 rfl) ?_
        refine lv_aload_n hx hb dX0_workOut_64 rfl (lv_at hl 2 rfl) ?_
        obtain ⟨x53, h54, h50⟩ := bd_s h50
        refine cM_V (As := [.ref (b 0), .int z10.1, .ref (q 0)]) (rest := []) (n := 3) (ov := none) (wc := cellsW k a z10.2.1 ++ (sceneW k b S ++ (arrW k q 256 z10.2.2))) (wc' := cellsW k a x53.1 ++ (sceneW k b S ++ (arrW k q 256 x53.2))) (w1 := cellsW k a x53.1 ++ (sceneW k b S ++ (arrW k q 256 x53.2))) hx hb hml hown hts hK hN hl.1 hP hD hS (Sp.idx (N := 13) [0, 1, 2, 3, 4, 5, 6, 7, 8, 9, 10, 11, 12] [] (by decide) rfl rfl rfl (Nat.le_of_ble_eq_true rfl) (by decide) (by decide) rfl) (c_X0_claim l D k a b q z10.2.1 S z10.2.2 z10.1 x53 h54) gX0_workOut_X0_claim rfl (by decide +kernel) ⟨⟨rfl, rfl⟩, by decide, by decide⟩ 0 0 rfl rfl rfl rfl rfl (Nat.le_of_ble_eq_true rfl) dX0_workOut_65 ⟨Nat.zero_le _, Nat.zero_le _⟩ (fun H locs hP hD hS => ?_)
        show W p l e rm_X0_workOut s m args below meth c H locs 0 0 Q (F0 m 68 ls [])
        obtain rfl := Option.some.inj h50
        exact K51 ls H locs (lv_sub hl [0, 1, 2, 3] rfl) hP hD hS
  refine lp_W (P := fun z3 => ∀ (ls : Array Slot) (H : Heap) (locs : List Loc), lv_has ls 6 [(0, .ref (a 0)), (1, .ref (b 0)), (3, .ref (q 0)), (4, .int z3.1)] → va_P D vwCl (cellsW k a z3.2.1 ++ (sceneW k b S ++ (arrW k q 256 z3.2.2))) H → va_D A0 (cellsW k a z3.2.1 ++ (sceneW k b S ++ (arrW k q 256 z3.2.2))) → va_S A0 s.heap H locs → W p l e rm_X0_workOut s m args below meth c H locs 0 0 Q (F0 m 8 ls [])) (E := fun x1 => ∀ (ls : Array Slot) (H : Heap) (locs : List Loc), lv_has ls 6 [(0, .ref (a 0)), (1, .ref (b 0)), (3, .ref (q 0))] → va_P D vwCl (cellsW k a x1.1 ++ (sceneW k b S ++ (arrW k q 256 x1.2))) H → va_D A0 (cellsW k a x1.1 ++ (sceneW k b S ++ (arrW k q 256 x1.2))) → va_S A0 s.heap H locs → W p l e rm_X0_workOut s m args below meth c H locs 0 0 Q (F0 m 36 ls [])) (fun z3 xx5 hB4 kI6 kE7 => ?_) _ _ _ h2 K59 ls H locs (lv_sub hl [1, 2, 4, 0] rfl) hP hD hS
  intro ls H locs hl hP hD hS
  unfold f_X0_workOut_L8 at hB4
  refine lv_iload hx hb dX0_workOut_8 (lv_at hl 3 rfl) ?_
  refine lv_sipush (v := 256) hx hb dX0_workOut_10 (by decide) ?_
  refine lv_icmp_ge (tgt := 36) hx hb dX0_workOut_13 (by decide) (fun c56 => ?_) (fun c56 => ?_)
  · have hB4 := if_t hB4 c56
    exact kE7 _ (Option.some.inj hB4).symm ls H locs (lv_sub hl [0, 1, 2] rfl) hP hD hS
  · have hB4 := if_f hB4 c56
    refine lv_aload_n hx hb dX0_workOut_16 rfl (lv_at hl 0 rfl) ?_
    refine va_get (D := D) (ci := 0) (v := .ref (a 1)) (C := RX0) (T := TX0) (N := 4) hx hb hts hiRX0 hown hK hP 0 rfl rfl 1 (by decide) hf15 (fun _ h9 => h9) rfl dX0_workOut_17 ?_
    refine lv_iload hx hb dX0_workOut_20 (lv_at hl 3 rfl) ?_
    refine lv_iconst (v := (-1)) hx hb dX0_workOut_22 (by decide) ?_
    obtain ⟨c57, hB4⟩ := gd_s hB4
    refine va_iast (D := D) hx hb hK hP hD hS 1 0 rfl rfl (ix_in c57) dX0_workOut_23 (fun H locs hP hD hS => ?_)
    have hP : va_P D vwCl (cellsW k a ((z3.2.1).1, (upd ((z3.2.1).2.1) (z3.1 : Int32).toNatClampNeg (-1)), (z3.2.1).2.2) ++ (sceneW k b S ++ (arrW k q 256 z3.2.2))) H := hP
    have hD : va_D A0 (cellsW k a ((z3.2.1).1, (upd ((z3.2.1).2.1) (z3.1 : Int32).toNatClampNeg (-1)), (z3.2.1).2.2) ++ (sceneW k b S ++ (arrW k q 256 z3.2.2))) := hD
    refine lv_aload_n hx hb dX0_workOut_24 rfl (lv_at hl 2 rfl) ?_
    refine lv_iload hx hb dX0_workOut_25 (lv_at hl 3 rfl) ?_
    refine lv_ldc hx hb hown (hts (.constant RX0 25 (1000000000)) (by decide +kernel)) dX0_workOut_27 ?_
    obtain ⟨c58, hB4⟩ := gd_s hB4
    refine va_iast (D := D) hx hb hK hP hD hS 12 0 rfl rfl (ix_in c58) dX0_workOut_29 (fun H locs hP hD hS => ?_)
    have hP : va_P D vwCl (cellsW k a ((z3.2.1).1, (upd ((z3.2.1).2.1) (z3.1 : Int32).toNatClampNeg (-1)), (z3.2.1).2.2) ++ (sceneW k b S ++ (arrW k q 256 (upd z3.2.2 (z3.1 : Int32).toNatClampNeg 1000000000)))) H := hP
    have hD : va_D A0 (cellsW k a ((z3.2.1).1, (upd ((z3.2.1).2.1) (z3.1 : Int32).toNatClampNeg (-1)), (z3.2.1).2.2) ++ (sceneW k b S ++ (arrW k q 256 (upd z3.2.2 (z3.1 : Int32).toNatClampNeg 1000000000)))) := hD
    refine lv_iinc (v := (z3.1 + 1)) (lv' := [(4, .int (z3.1 + 1)), (0, .ref (a 0)), (1, .ref (b 0)), (3, .ref (q 0))]) hx hb dX0_workOut_30 hl (k := 3) rfl rfl (by decide) rfl (fun ls hl => ?_)
    refine lv_goto (tgt := 8) hx hb dX0_workOut_33 (by decide) ?_
    exact kI6 _ (Option.some.inj hB4).symm ls H locs (lv_sub hl [1, 2, 3, 0] rfl) hP hD hS

abbrev rm_X0_ownerAt : Room := { frames := 1, cells := 0, slots := 0, locals := 21 }
def f_X0_ownerAt (V : CellV) (y1 : Int32) (y2 : Int32) : Option (Int32) := (f_X4_isPlot y1 y2).bind (fun x1 => if (b2i x1) = 0 then (some (-1)) else (gd (ix ((y2 * 16) + y1) 256) (some (V.2.1 (((y2 * 16) + y1) : Int32).toNatClampNeg))))
set_option maxHeartbeats 4000000 in
set_option maxRecDepth 100000 in
theorem c_X0_ownerAt (l : Launch) (D : va_G) (k : Nat → ClassId) (a : Nat → Nat) (V : CellV) (y1 : Int32) (y2 : Int32) (r : Int32) (h : f_X0_ownerAt V y1 y2 = some r) : Met l yX0_ownerAt wsX0_ownerAt rm_X0_ownerAt (va_Pc [.ref (a 0), .int y1, .int y2] (RB D k (cellsW k a V))) (QR (some (.int r))) 0 0 (fun _ => False) := by
  refine met_Ri (by decide) rfl (Nat.le_of_ble_eq_true rfl) ?_
  intro p e s m below meth c Q args ls hx hb hml hown hts hP hK hN hl hQ
  have hl : lv_has ls 3 [(0, .ref (a 0)), (1, .int y1), (2, .int y2)] := hl
  have hown : s.vm.findClass RX0 = some m.cls := hown
  unfold f_X0_ownerAt at h
  have hiRX0 : ∀ w ∈ u_ws RX0 TX0 4, w ∈ wsX0_ownerAt := by decide +kernel
  have hf15 := hts (.fieldLink RX0 15 "RainCells$Cells" "owners" "[I") (by decide +kernel)
  refine lv_iload_n hx hb dX0_ownerAt_0 rfl (lv_at hl 1 rfl) ?_
  refine lv_iload_n hx hb dX0_ownerAt_1 rfl (lv_at hl 2 rfl) ?_
  obtain ⟨x1, h2, h⟩ := bd_s h
  refine cR_N (As := [.int y1, .int y2]) (rest := []) (n := 2) (v := .int (b2i x1)) hx hb hml hown hts hK hN hl.1 (c_X4_isPlot l D k y1 y2 x1 h2) hN.2.2.1 ggX0_ownerAt_X4_isPlot rfl (hts (.static yX4_isPlot) (by decide +kernel)) (hts (.initialized RX4) (by decide +kernel)) (by decide +kernel) ⟨⟨rfl, rfl⟩, by decide, by decide⟩ va_P_nil rfl rfl (Nat.le_of_ble_eq_true rfl) dX0_ownerAt_2 ⟨Nat.zero_le _, Nat.zero_le _⟩ ?_
  refine lv_if_eq (tgt := 22) hx hb dX0_ownerAt_5 (by decide) (fun c3 => ?_) (fun c3 => ?_)
  · have h := if_t h c3
    refine lv_iconst (v := (-1)) hx hb dX0_ownerAt_22 (by decide) ?_
    obtain rfl := Option.some.inj h
    exact hQ _ _ dX0_ownerAt_23
  · have h := if_f h c3
    refine lv_aload_n hx hb dX0_ownerAt_8 rfl (lv_at hl 0 rfl) ?_
    refine va_get (D := D) (ci := 0) (v := .ref (a 1)) (C := RX0) (T := TX0) (N := 4) hx hb hts hiRX0 hown hK hP 0 rfl rfl 1 (by decide) hf15 (fun _ h9 => h9) rfl dX0_ownerAt_9 ?_
    refine lv_iload_n hx hb dX0_ownerAt_12 rfl (lv_at hl 2 rfl) ?_
    refine lv_bipush (v := 16) hx hb dX0_ownerAt_13 (by decide) ?_
    refine lv_imul hx hb dX0_ownerAt_15 ?_
    refine lv_iload_n hx hb dX0_ownerAt_16 rfl (lv_at hl 1 rfl) ?_
    refine lv_iadd hx hb dX0_ownerAt_17 ?_
    obtain ⟨c4, h⟩ := gd_s h
    refine va_iald (D := D) hx hb hK hP 1 0 rfl rfl (ix_in c4) dX0_ownerAt_18 ?_
    refine lv_goto (tgt := 23) hx hb dX0_ownerAt_19 (by decide) ?_
    obtain rfl := Option.some.inj h
    exact hQ _ _ dX0_ownerAt_23

abbrev rm_X0_farOfAll : Room := { frames := 0, cells := 0, slots := 0, locals := 0 }
def f_X0_farOfAll_L4 (V : CellV) (z : Int32 × Int32) : Option ((Int32 × Int32) ⊕ (Int32)) := if 8 ≤ z.2 then (some (.inr z.1)) else (gd (ix z.2 8) (some (.inl ((z.1 + (V.2.2.2 (z.2 : Int32).toNatClampNeg)), (z.2 + 1)))))
def f_X0_farOfAll (V : CellV) : Option (Int32) := (lp (f_X0_farOfAll_L4 V) fu (0, 0)).bind (fun x1 => some x1)
set_option maxHeartbeats 4000000 in
set_option maxRecDepth 100000 in
theorem c_X0_farOfAll (l : Launch) (D : va_G) (k : Nat → ClassId) (a : Nat → Nat) (V : CellV) (r : Int32) (h : f_X0_farOfAll V = some r) : Met l yX0_farOfAll wsX0_farOfAll rm_X0_farOfAll (va_Pc [.ref (a 0)] (RB D k (cellsW k a V))) (QR (some (.int r))) 0 0 (fun _ => False) := by
  refine met_Ri (by decide) rfl (Nat.le_of_ble_eq_true rfl) ?_
  intro p e s m below meth c Q args ls hx hb hml hown hts hP hK hN hl hQ
  have hl : lv_has ls 3 [(0, .ref (a 0))] := hl
  have hown : s.vm.findClass RX0 = some m.cls := hown
  unfold f_X0_farOfAll at h
  have hiRX0 : ∀ w ∈ u_ws RX0 TX0 4, w ∈ wsX0_farOfAll := by decide +kernel
  have hf22 := hts (.fieldLink RX0 22 "RainCells$Cells" "fars" "[I") (by decide +kernel)
  refine lv_iconst (v := 0) hx hb dX0_farOfAll_0 (by decide) ?_
  refine lv_istore_n (lv' := [(1, .int 0), (0, .ref (a 0))]) hx hb dX0_farOfAll_1 rfl hl (by decide) rfl (fun ls hl => ?_)
  refine lv_iconst (v := 0) hx hb dX0_farOfAll_2 (by decide) ?_
  refine lv_istore_n (lv' := [(2, .int 0), (1, .int 0), (0, .ref (a 0))]) hx hb dX0_farOfAll_3 rfl hl (by decide) rfl (fun ls hl => ?_)
  obtain ⟨x1, h2, h⟩ := bd_s h
  have K10 : ∀ (ls : Array Slot), lv_has ls 3 [(1, .int x1)] → W p l e rm_X0_farOfAll s m args below meth c s.heap [] 0 0 Q (F0 m 25 ls []) := by
    intro ls hl
    refine lv_iload_n hx hb dX0_farOfAll_25 rfl (lv_at hl 0 rfl) ?_
    obtain rfl := Option.some.inj h
    exact hQ _ _ dX0_farOfAll_26
  refine lp_W (P := fun z3 => ∀ (ls : Array Slot), lv_has ls 3 [(0, .ref (a 0)), (1, .int z3.1), (2, .int z3.2)] → W p l e rm_X0_farOfAll s m args below meth c s.heap [] 0 0 Q (F0 m 4 ls [])) (E := fun x1 => ∀ (ls : Array Slot), lv_has ls 3 [(1, .int x1)] → W p l e rm_X0_farOfAll s m args below meth c s.heap [] 0 0 Q (F0 m 25 ls [])) (fun z3 xx5 hB4 kI6 kE7 => ?_) _ _ _ h2 K10 ls (lv_sub hl [2, 1, 0] rfl)
  intro ls hl
  unfold f_X0_farOfAll_L4 at hB4
  refine lv_iload_n hx hb dX0_farOfAll_4 rfl (lv_at hl 2 rfl) ?_
  refine lv_bipush (v := 8) hx hb dX0_farOfAll_5 (by decide) ?_
  refine lv_icmp_ge (tgt := 25) hx hb dX0_farOfAll_7 (by decide) (fun c8 => ?_) (fun c8 => ?_)
  · have hB4 := if_t hB4 c8
    exact kE7 _ (Option.some.inj hB4).symm ls (lv_sub hl [1] rfl)
  · have hB4 := if_f hB4 c8
    refine lv_iload_n hx hb dX0_farOfAll_10 rfl (lv_at hl 1 rfl) ?_
    refine lv_aload_n hx hb dX0_farOfAll_11 rfl (lv_at hl 0 rfl) ?_
    refine va_get (D := D) (ci := 0) (v := .ref (a 3)) (C := RX0) (T := TX0) (N := 4) hx hb hts hiRX0 hown hK hP 0 rfl rfl 3 (by decide) hf22 (fun _ h9 => h9) rfl dX0_farOfAll_12 ?_
    refine lv_iload_n hx hb dX0_farOfAll_15 rfl (lv_at hl 2 rfl) ?_
    obtain ⟨c9, hB4⟩ := gd_s hB4
    refine va_iald (D := D) hx hb hK hP 3 0 rfl rfl (ix_in c9) dX0_farOfAll_16 ?_
    refine lv_iadd hx hb dX0_farOfAll_17 ?_
    refine lv_istore_n (lv' := [(1, .int (z3.1 + (V.2.2.2 (z3.2 : Int32).toNatClampNeg))), (0, .ref (a 0)), (2, .int z3.2)]) hx hb dX0_farOfAll_18 rfl hl (by decide) rfl (fun ls hl => ?_)
    refine lv_iinc (v := (z3.2 + 1)) (lv' := [(2, .int (z3.2 + 1)), (1, .int (z3.1 + (V.2.2.2 (z3.2 : Int32).toNatClampNeg))), (0, .ref (a 0))]) hx hb dX0_farOfAll_19 hl (k := 2) rfl rfl (by decide) rfl (fun ls hl => ?_)
    refine lv_goto (tgt := 4) hx hb dX0_farOfAll_22 (by decide) ?_
    exact kI6 _ (Option.some.inj hB4).symm ls (lv_sub hl [2, 1, 0] rfl)

abbrev rm_X0_sidesTo : Room := { frames := 2, cells := 0, slots := 0, locals := 43 }
def f_X0_sidesTo_L15 (V : CellV) (y1 : Int32) (y2 : Int32) (y4 : Int32) (z : Int32 × Int32) : Option ((Int32 × Int32) ⊕ (Int32)) := if 16 ≤ z.2 then (some (.inr z.1)) else ((f_X0_ownerAt V z.2 y4).bind (fun x3 => (if x3 = y1 then ((f_X0_ownerAt V (z.2 - 1) y4).bind (fun x9 => (if x9 = y2 then (some 1) else (some 0) : Option (Int32)).bind (fun x11 => (f_X0_ownerAt V (z.2 + 1) y4).bind (fun x14 => (if x14 = y2 then (some 1) else (some 0) : Option (Int32)).bind (fun x16 => (f_X0_ownerAt V z.2 (y4 - 1)).bind (fun x19 => (if x19 = y2 then (some 1) else (some 0) : Option (Int32)).bind (fun x21 => (f_X0_ownerAt V z.2 (y4 + 1)).bind (fun x24 => (if x24 = y2 then (some 1) else (some 0) : Option (Int32)).bind (fun x26 => some ((((z.1 + x11) + x16) + x21) + x26)))))))))) else (some z.1) : Option (Int32)).bind (fun x5 => some (.inl (x5, (z.2 + 1))))))
def f_X0_sidesTo_L5 (V : CellV) (y1 : Int32) (y2 : Int32) (z : Int32 × Int32) : Option ((Int32 × Int32) ⊕ (Int32)) := if 16 ≤ z.2 then (some (.inr z.1)) else ((lp (f_X0_sidesTo_L15 V y1 y2 z.2) fu (z.1, 0)).bind (fun x2 => some (.inl (x2, (z.2 + 1)))))
def f_X0_sidesTo (V : CellV) (y1 : Int32) (y2 : Int32) : Option (Int32) := (lp (f_X0_sidesTo_L5 V y1 y2) fu (0, 0)).bind (fun x1 => some x1)
set_option maxHeartbeats 4000000 in
set_option maxRecDepth 100000 in
theorem c_X0_sidesTo (l : Launch) (D : va_G) (k : Nat → ClassId) (a : Nat → Nat) (V : CellV) (y1 : Int32) (y2 : Int32) (r : Int32) (h : f_X0_sidesTo V y1 y2 = some r) : Met l yX0_sidesTo wsX0_sidesTo rm_X0_sidesTo (va_Pc [.ref (a 0), .int y1, .int y2] (RB D k (cellsW k a V))) (QR (some (.int r))) 0 0 (fun _ => False) := by
  refine met_Ri (by decide) rfl (Nat.le_of_ble_eq_true rfl) ?_
  intro p e s m below meth c Q args ls hx hb hml hown hts hP hK hN hl hQ
  have hl : lv_has ls 6 [(0, .ref (a 0)), (1, .int y1), (2, .int y2)] := hl
  have hown : s.vm.findClass RX0 = some m.cls := hown
  unfold f_X0_sidesTo at h
  refine lv_iconst (v := 0) hx hb dX0_sidesTo_0 (by decide) ?_
  refine lv_istore_n (lv' := [(3, .int 0), (0, .ref (a 0)), (1, .int y1), (2, .int y2)]) hx hb dX0_sidesTo_1 rfl hl (by decide) rfl (fun ls hl => ?_)
  refine lv_iconst (v := 0) hx hb dX0_sidesTo_2 (by decide) ?_
  refine lv_istore (lv' := [(4, .int 0), (3, .int 0), (0, .ref (a 0)), (1, .int y1), (2, .int y2)]) hx hb dX0_sidesTo_3 hl (by decide) rfl (fun ls hl => ?_)
  obtain ⟨x1, h2, h⟩ := bd_s h
  have K48 : ∀ (ls : Array Slot), lv_has ls 6 [(3, .int x1)] → W p l e rm_X0_sidesTo s m args below meth c s.heap [] 0 0 Q (F0 m 134 ls []) := by
    intro ls hl
    refine lv_iload_n hx hb dX0_sidesTo_134 rfl (lv_at hl 0 rfl) ?_
    obtain rfl := Option.some.inj h
    exact hQ _ _ dX0_sidesTo_135
  refine lp_W (P := fun z3 => ∀ (ls : Array Slot), lv_has ls 6 [(0, .ref (a 0)), (1, .int y1), (2, .int y2), (3, .int z3.1), (4, .int z3.2)] → W p l e rm_X0_sidesTo s m args below meth c s.heap [] 0 0 Q (F0 m 5 ls [])) (E := fun x1 => ∀ (ls : Array Slot), lv_has ls 6 [(3, .int x1)] → W p l e rm_X0_sidesTo s m args below meth c s.heap [] 0 0 Q (F0 m 134 ls [])) (fun z3 xx5 hB4 kI6 kE7 => ?_) _ _ _ h2 K48 ls (lv_sub hl [2, 3, 4, 1, 0] rfl)
  intro ls hl
  unfold f_X0_sidesTo_L5 at hB4
  refine lv_iload hx hb dX0_sidesTo_5 (lv_at hl 4 rfl) ?_
  refine lv_bipush (v := 16) hx hb dX0_sidesTo_7 (by decide) ?_
  refine lv_icmp_ge (tgt := 134) hx hb dX0_sidesTo_9 (by decide) (fun c8 => ?_) (fun c8 => ?_)
  · have hB4 := if_t hB4 c8
    exact kE7 _ (Option.some.inj hB4).symm ls (lv_sub hl [3] rfl)
  · have hB4 := if_f hB4 c8
    refine lv_iconst (v := 0) hx hb dX0_sidesTo_12 (by decide) ?_
    refine lv_istore (lv' := [(5, .int 0), (0, .ref (a 0)), (1, .int y1), (2, .int y2), (3, .int z3.1), (4, .int z3.2)]) hx hb dX0_sidesTo_13 hl (by decide) rfl (fun ls hl => ?_)
    obtain ⟨x9, h10, hB4⟩ := bd_s hB4
    have K47 : ∀ (ls : Array Slot), lv_has ls 6 [(0, .ref (a 0)), (1, .int y1), (2, .int y2), (3, .int x9), (4, .int z3.2)] → W p l e rm_X0_sidesTo s m args below meth c s.heap [] 0 0 Q (F0 m 128 ls []) := by
      intro ls hl
      refine lv_iinc (v := (z3.2 + 1)) (lv' := [(4, .int (z3.2 + 1)), (0, .ref (a 0)), (1, .int y1), (2, .int y2), (3, .int x9)]) hx hb dX0_sidesTo_128 hl (k := 4) rfl rfl (by decide) rfl (fun ls hl => ?_)
      refine lv_goto (tgt := 5) hx hb dX0_sidesTo_131 (by decide) ?_
      exact kI6 _ (Option.some.inj hB4).symm ls (lv_sub hl [1, 2, 3, 4, 0] rfl)
    refine lp_W (P := fun z11 => ∀ (ls : Array Slot), lv_has ls 6 [(0, .ref (a 0)), (1, .int y1), (2, .int y2), (3, .int z11.1), (4, .int z3.2), (5, .int z11.2)] → W p l e rm_X0_sidesTo s m args below meth c s.heap [] 0 0 Q (F0 m 15 ls [])) (E := fun x9 => ∀ (ls : Array Slot), lv_has ls 6 [(0, .ref (a 0)), (1, .int y1), (2, .int y2), (3, .int x9), (4, .int z3.2)] → W p l e rm_X0_sidesTo s m args below meth c s.heap [] 0 0 Q (F0 m 128 ls [])) (fun z11 xx13 hB12 kI14 kE15 => ?_) _ _ _ h10 K47 ls (lv_sub hl [1, 2, 3, 4, 5, 0] rfl)
    intro ls hl
    unfold f_X0_sidesTo_L15 at hB12
    refine lv_iload hx hb dX0_sidesTo_15 (lv_at hl 5 rfl) ?_
    refine lv_bipush (v := 16) hx hb dX0_sidesTo_17 (by decide) ?_
    refine lv_icmp_ge (tgt := 128) hx hb dX0_sidesTo_19 (by decide) (fun c16 => ?_) (fun c16 => ?_)
    · have hB12 := if_t hB12 c16
      exact kE15 _ (Option.some.inj hB12).symm ls (lv_sub hl [0, 1, 2, 3, 4] rfl)
    · have hB12 := if_f hB12 c16
      refine lv_aload_n hx hb dX0_sidesTo_22 rfl (lv_at hl 0 rfl) ?_
      refine lv_iload hx hb dX0_sidesTo_23 (lv_at hl 5 rfl) ?_
      refine lv_iload hx hb dX0_sidesTo_25 (lv_at hl 4 rfl) ?_
      obtain ⟨x17, h18, hB12⟩ := bd_s hB12
      refine cR_V (As := [.int z11.2, .int z3.2]) (rest := []) (n := 2) (v := .int x17) hx hb hml hown hts hK hN hl.1 (c_X0_ownerAt l D k a V z11.2 z3.2 x17 h18) gX0_sidesTo_X0_ownerAt rfl (by decide +kernel) ⟨⟨rfl, rfl⟩, by decide, by decide⟩ hP 0 0 rfl rfl rfl rfl rfl (Nat.le_of_ble_eq_true rfl) dX0_sidesTo_27 ⟨Nat.zero_le _, Nat.zero_le _⟩ ?_
      refine lv_iload_n hx hb dX0_sidesTo_30 rfl (lv_at hl 1 rfl) ?_
      obtain ⟨x19, h20, hB12⟩ := bd_s hB12
      have K21 : ∀ (ls : Array Slot), lv_has ls 6 [(0, .ref (a 0)), (1, .int y1), (2, .int y2), (3, .int x19), (4, .int z3.2), (5, .int z11.2)] → W p l e rm_X0_sidesTo s m args below meth c s.heap [] 0 0 Q (F0 m 122 ls []) := by
        intro ls hl
        refine lv_iinc (v := (z11.2 + 1)) (lv' := [(5, .int (z11.2 + 1)), (0, .ref (a 0)), (1, .int y1), (2, .int y2), (3, .int x19), (4, .int z3.2)]) hx hb dX0_sidesTo_122 hl (k := 5) rfl rfl (by decide) rfl (fun ls hl => ?_)
        refine lv_goto (tgt := 15) hx hb dX0_sidesTo_125 (by decide) ?_
        exact kI14 _ (Option.some.inj hB12).symm ls (lv_sub hl [1, 2, 3, 4, 5, 0] rfl)
      refine lv_icmp_ne (tgt := 122) hx hb dX0_sidesTo_31 (by decide) (fun c22 => ?_) (fun c22 => ?_)
      · have h20 := if_f h20 c22
        obtain rfl := Option.some.inj h20
        exact K21 ls (lv_sub hl [0, 1, 2, 3, 4, 5] rfl)
      · have h20 := if_t h20 c22
        refine lv_iload_n hx hb dX0_sidesTo_34 rfl (lv_at hl 3 rfl) ?_
        refine lv_aload_n hx hb dX0_sidesTo_35 rfl (lv_at hl 0 rfl) ?_
        refine lv_iload hx hb dX0_sidesTo_36 (lv_at hl 5 rfl) ?_
        refine lv_iconst (v := 1) hx hb dX0_sidesTo_38 (by decide) ?_
        refine lv_isub hx hb dX0_sidesTo_39 ?_
        refine lv_iload hx hb dX0_sidesTo_40 (lv_at hl 4 rfl) ?_
        obtain ⟨x23, h24, h20⟩ := bd_s h20
        refine cR_V (As := [.int (z11.2 - 1), .int z3.2]) (rest := [.int z11.1]) (n := 2) (v := .int x23) hx hb hml hown hts hK hN hl.1 (c_X0_ownerAt l D k a V (z11.2 - 1) z3.2 x23 h24) gX0_sidesTo_X0_ownerAt rfl (by decide +kernel) ⟨⟨rfl, rfl⟩, by decide, by decide⟩ hP 0 0 rfl rfl rfl rfl rfl (Nat.le_of_ble_eq_true rfl) dX0_sidesTo_42 ⟨Nat.zero_le _, Nat.zero_le _⟩ ?_
        refine lv_iload_n hx hb dX0_sidesTo_45 rfl (lv_at hl 2 rfl) ?_
        obtain ⟨x25, h26, h20⟩ := bd_s h20
        have K27 : W p l e rm_X0_sidesTo s m args below meth c s.heap [] 0 0 Q (F0 m 54 ls [.int x25, .int z11.1]) := by
          refine lv_iadd hx hb dX0_sidesTo_54 ?_
          refine lv_istore_n (lv' := [(3, .int (z11.1 + x25)), (0, .ref (a 0)), (1, .int y1), (2, .int y2), (4, .int z3.2), (5, .int z11.2)]) hx hb dX0_sidesTo_55 rfl hl (by decide) rfl (fun ls hl => ?_)
          refine lv_iload_n hx hb dX0_sidesTo_56 rfl (lv_at hl 0 rfl) ?_
          refine lv_aload_n hx hb dX0_sidesTo_57 rfl (lv_at hl 1 rfl) ?_
          refine lv_iload hx hb dX0_sidesTo_58 (lv_at hl 5 rfl) ?_
          refine lv_iconst (v := 1) hx hb dX0_sidesTo_60 (by decide) ?_
          refine lv_iadd hx hb dX0_sidesTo_61 ?_
          refine lv_iload hx hb dX0_sidesTo_62 (lv_at hl 4 rfl) ?_
          obtain ⟨x28, h29, h20⟩ := bd_s h20
          refine cR_V (As := [.int (z11.2 + 1), .int z3.2]) (rest := [.int (z11.1 + x25)]) (n := 2) (v := .int x28) hx hb hml hown hts hK hN hl.1 (c_X0_ownerAt l D k a V (z11.2 + 1) z3.2 x28 h29) gX0_sidesTo_X0_ownerAt rfl (by decide +kernel) ⟨⟨rfl, rfl⟩, by decide, by decide⟩ hP 0 0 rfl rfl rfl rfl rfl (Nat.le_of_ble_eq_true rfl) dX0_sidesTo_64 ⟨Nat.zero_le _, Nat.zero_le _⟩ ?_
          refine lv_iload_n hx hb dX0_sidesTo_67 rfl (lv_at hl 3 rfl) ?_
          obtain ⟨x30, h31, h20⟩ := bd_s h20
          have K32 : W p l e rm_X0_sidesTo s m args below meth c s.heap [] 0 0 Q (F0 m 76 ls [.int x30, .int (z11.1 + x25)]) := by
            refine lv_iadd hx hb dX0_sidesTo_76 ?_
            refine lv_istore_n (lv' := [(3, .int ((z11.1 + x25) + x30)), (0, .ref (a 0)), (1, .int y1), (2, .int y2), (4, .int z3.2), (5, .int z11.2)]) hx hb dX0_sidesTo_77 rfl hl (by decide) rfl (fun ls hl => ?_)
            refine lv_iload_n hx hb dX0_sidesTo_78 rfl (lv_at hl 0 rfl) ?_
            refine lv_aload_n hx hb dX0_sidesTo_79 rfl (lv_at hl 1 rfl) ?_
            refine lv_iload hx hb dX0_sidesTo_80 (lv_at hl 5 rfl) ?_
            refine lv_iload hx hb dX0_sidesTo_82 (lv_at hl 4 rfl) ?_
            refine lv_iconst (v := 1) hx hb dX0_sidesTo_84 (by decide) ?_
            refine lv_isub hx hb dX0_sidesTo_85 ?_
            obtain ⟨x33, h34, h20⟩ := bd_s h20
            refine cR_V (As := [.int z11.2, .int (z3.2 - 1)]) (rest := [.int ((z11.1 + x25) + x30)]) (n := 2) (v := .int x33) hx hb hml hown hts hK hN hl.1 (c_X0_ownerAt l D k a V z11.2 (z3.2 - 1) x33 h34) gX0_sidesTo_X0_ownerAt rfl (by decide +kernel) ⟨⟨rfl, rfl⟩, by decide, by decide⟩ hP 0 0 rfl rfl rfl rfl rfl (Nat.le_of_ble_eq_true rfl) dX0_sidesTo_86 ⟨Nat.zero_le _, Nat.zero_le _⟩ ?_
            refine lv_iload_n hx hb dX0_sidesTo_89 rfl (lv_at hl 3 rfl) ?_
            obtain ⟨x35, h36, h20⟩ := bd_s h20
            have K37 : W p l e rm_X0_sidesTo s m args below meth c s.heap [] 0 0 Q (F0 m 98 ls [.int x35, .int ((z11.1 + x25) + x30)]) := by
              refine lv_iadd hx hb dX0_sidesTo_98 ?_
              refine lv_istore_n (lv' := [(3, .int (((z11.1 + x25) + x30) + x35)), (0, .ref (a 0)), (1, .int y1), (2, .int y2), (4, .int z3.2), (5, .int z11.2)]) hx hb dX0_sidesTo_99 rfl hl (by decide) rfl (fun ls hl => ?_)
              refine lv_iload_n hx hb dX0_sidesTo_100 rfl (lv_at hl 0 rfl) ?_
              refine lv_aload_n hx hb dX0_sidesTo_101 rfl (lv_at hl 1 rfl) ?_
              refine lv_iload hx hb dX0_sidesTo_102 (lv_at hl 5 rfl) ?_
              refine lv_iload hx hb dX0_sidesTo_104 (lv_at hl 4 rfl) ?_
              refine lv_iconst (v := 1) hx hb dX0_sidesTo_106 (by decide) ?_
              refine lv_iadd hx hb dX0_sidesTo_107 ?_
              obtain ⟨x38, h39, h20⟩ := bd_s h20
              refine cR_V (As := [.int z11.2, .int (z3.2 + 1)]) (rest := [.int (((z11.1 + x25) + x30) + x35)]) (n := 2) (v := .int x38) hx hb hml hown hts hK hN hl.1 (c_X0_ownerAt l D k a V z11.2 (z3.2 + 1) x38 h39) gX0_sidesTo_X0_ownerAt rfl (by decide +kernel) ⟨⟨rfl, rfl⟩, by decide, by decide⟩ hP 0 0 rfl rfl rfl rfl rfl (Nat.le_of_ble_eq_true rfl) dX0_sidesTo_108 ⟨Nat.zero_le _, Nat.zero_le _⟩ ?_
              refine lv_iload_n hx hb dX0_sidesTo_111 rfl (lv_at hl 3 rfl) ?_
              obtain ⟨x40, h41, h20⟩ := bd_s h20
              have K42 : W p l e rm_X0_sidesTo s m args below meth c s.heap [] 0 0 Q (F0 m 120 ls [.int x40, .int (((z11.1 + x25) + x30) + x35)]) := by
                refine lv_iadd hx hb dX0_sidesTo_120 ?_
                refine lv_istore_n (lv' := [(3, .int ((((z11.1 + x25) + x30) + x35) + x40)), (0, .ref (a 0)), (1, .int y1), (2, .int y2), (4, .int z3.2), (5, .int z11.2)]) hx hb dX0_sidesTo_121 rfl hl (by decide) rfl (fun ls hl => ?_)
                obtain rfl := Option.some.inj h20
                exact K21 ls (lv_sub hl [1, 2, 3, 0, 4, 5] rfl)
              refine lv_icmp_ne (tgt := 119) hx hb dX0_sidesTo_112 (by decide) (fun c43 => ?_) (fun c43 => ?_)
              · have h41 := if_f h41 c43
                refine lv_iconst (v := 0) hx hb dX0_sidesTo_119 (by decide) ?_
                obtain rfl := Option.some.inj h41
                exact K42
              · have h41 := if_t h41 c43
                refine lv_iconst (v := 1) hx hb dX0_sidesTo_115 (by decide) ?_
                refine lv_goto (tgt := 120) hx hb dX0_sidesTo_116 (by decide) ?_
                obtain rfl := Option.some.inj h41
                exact K42
            refine lv_icmp_ne (tgt := 97) hx hb dX0_sidesTo_90 (by decide) (fun c44 => ?_) (fun c44 => ?_)
            · have h36 := if_f h36 c44
              refine lv_iconst (v := 0) hx hb dX0_sidesTo_97 (by decide) ?_
              obtain rfl := Option.some.inj h36
              exact K37
            · have h36 := if_t h36 c44
              refine lv_iconst (v := 1) hx hb dX0_sidesTo_93 (by decide) ?_
              refine lv_goto (tgt := 98) hx hb dX0_sidesTo_94 (by decide) ?_
              obtain rfl := Option.some.inj h36
              exact K37
          refine lv_icmp_ne (tgt := 75) hx hb dX0_sidesTo_68 (by decide) (fun c45 => ?_) (fun c45 => ?_)
          · have h31 := if_f h31 c45
            refine lv_iconst (v := 0) hx hb dX0_sidesTo_75 (by decide) ?_
            obtain rfl := Option.some.inj h31
            exact K32
          · have h31 := if_t h31 c45
            refine lv_iconst (v := 1) hx hb dX0_sidesTo_71 (by decide) ?_
            refine lv_goto (tgt := 76) hx hb dX0_sidesTo_72 (by decide) ?_
            obtain rfl := Option.some.inj h31
            exact K32
        refine lv_icmp_ne (tgt := 53) hx hb dX0_sidesTo_46 (by decide) (fun c46 => ?_) (fun c46 => ?_)
        · have h26 := if_f h26 c46
          refine lv_iconst (v := 0) hx hb dX0_sidesTo_53 (by decide) ?_
          obtain rfl := Option.some.inj h26
          exact K27
        · have h26 := if_t h26 c46
          refine lv_iconst (v := 1) hx hb dX0_sidesTo_49 (by decide) ?_
          refine lv_goto (tgt := 54) hx hb dX0_sidesTo_50 (by decide) ?_
          obtain rfl := Option.some.inj h26
          exact K27

abbrev rm_X0_ownersAt : Room := { frames := 2, cells := 0, slots := 0, locals := 43 }
def f_X0_ownersAt (V : CellV) (y1 : Int32) (y2 : Int32) : Option (Int32) := (f_X0_ownerAt V y1 y2).bind (fun x1 => if x1 = (-1) then (some 0) else ((f_X4_with 0 x1).bind (fun x4 => some x4)))
set_option maxHeartbeats 4000000 in
set_option maxRecDepth 100000 in
theorem c_X0_ownersAt (l : Launch) (D : va_G) (k : Nat → ClassId) (a : Nat → Nat) (V : CellV) (y1 : Int32) (y2 : Int32) (r : Int32) (h : f_X0_ownersAt V y1 y2 = some r) : Met l yX0_ownersAt wsX0_ownersAt rm_X0_ownersAt (va_Pc [.ref (a 0), .int y1, .int y2] (RB D k (cellsW k a V))) (QR (some (.int r))) 0 0 (fun _ => False) := by
  refine met_Ri (by decide) rfl (Nat.le_of_ble_eq_true rfl) ?_
  intro p e s m below meth c Q args ls hx hb hml hown hts hP hK hN hl hQ
  have hl : lv_has ls 4 [(0, .ref (a 0)), (1, .int y1), (2, .int y2)] := hl
  have hown : s.vm.findClass RX0 = some m.cls := hown
  unfold f_X0_ownersAt at h
  refine lv_aload_n hx hb dX0_ownersAt_0 rfl (lv_at hl 0 rfl) ?_
  refine lv_iload_n hx hb dX0_ownersAt_1 rfl (lv_at hl 1 rfl) ?_
  refine lv_iload_n hx hb dX0_ownersAt_2 rfl (lv_at hl 2 rfl) ?_
  obtain ⟨x1, h2, h⟩ := bd_s h
  refine cR_V (As := [.int y1, .int y2]) (rest := []) (n := 2) (v := .int x1) hx hb hml hown hts hK hN hl.1 (c_X0_ownerAt l D k a V y1 y2 x1 h2) gX0_ownersAt_X0_ownerAt rfl (by decide +kernel) ⟨⟨rfl, rfl⟩, by decide, by decide⟩ hP 0 0 rfl rfl rfl rfl rfl (Nat.le_of_ble_eq_true rfl) dX0_ownersAt_3 ⟨Nat.zero_le _, Nat.zero_le _⟩ ?_
  refine lv_istore_n (lv' := [(3, .int x1), (0, .ref (a 0)), (1, .int y1), (2, .int y2)]) hx hb dX0_ownersAt_6 rfl hl (by decide) rfl (fun ls hl => ?_)
  refine lv_iload_n hx hb dX0_ownersAt_7 rfl (lv_at hl 0 rfl) ?_
  refine lv_iconst (v := (-1)) hx hb dX0_ownersAt_8 (by decide) ?_
  refine lv_icmp_ne (tgt := 16) hx hb dX0_ownersAt_9 (by decide) (fun c3 => ?_) (fun c3 => ?_)
  · have h := if_f h c3
    refine lv_iconst (v := 0) hx hb dX0_ownersAt_16 (by decide) ?_
    refine lv_iload_n hx hb dX0_ownersAt_17 rfl (lv_at hl 0 rfl) ?_
    obtain ⟨x4, h5, h⟩ := bd_s h
    refine cR_N (As := [.int 0, .int x1]) (rest := []) (n := 2) (v := .int x4) hx hb hml hown hts hK hN hl.1 (c_X4_with l D k 0 x1 x4 h5) hN.2.2.2.2.1 ggX0_ownersAt_X4_with rfl (hts (.static yX4_with) (by decide +kernel)) (hts (.initialized RX4) (by decide +kernel)) (by decide +kernel) ⟨⟨rfl, rfl⟩, by decide, by decide⟩ va_P_nil rfl rfl (Nat.le_of_ble_eq_true rfl) dX0_ownersAt_18 ⟨Nat.zero_le _, Nat.zero_le _⟩ ?_
    obtain rfl := Option.some.inj h
    exact hQ _ _ dX0_ownersAt_21
  · have h := if_t h c3
    refine lv_iconst (v := 0) hx hb dX0_ownersAt_12 (by decide) ?_
    refine lv_goto (tgt := 21) hx hb dX0_ownersAt_13 (by decide) ?_
    obtain rfl := Option.some.inj h
    exact hQ _ _ dX0_ownersAt_21

abbrev rm_X0_touching : Room := { frames := 3, cells := 0, slots := 0, locals := 66 }
def f_X0_touching_L13 (V : CellV) (y1 : Int32) (y3 : Int32) (z : Int32 × Int32) : Option ((Int32 × Int32) ⊕ (Int32)) := if 16 ≤ z.2 then (some (.inr z.1)) else ((f_X0_ownerAt V z.2 y3).bind (fun x3 => (if x3 = y1 then ((f_X0_ownersAt V (z.2 - 1) y3).bind (fun x9 => (f_X0_ownersAt V (z.2 + 1) y3).bind (fun x11 => (f_X0_ownersAt V z.2 (y3 - 1)).bind (fun x13 => (f_X0_ownersAt V z.2 (y3 + 1)).bind (fun x15 => some ((z.1 ||| (x9 ||| x11)) ||| (x13 ||| x15))))))) else (some z.1) : Option (Int32)).bind (fun x5 => some (.inl (x5, (z.2 + 1))))))
def f_X0_touching_L4 (V : CellV) (y1 : Int32) (z : Int32 × Int32) : Option ((Int32 × Int32) ⊕ (Int32)) := if 16 ≤ z.2 then (some (.inr z.1)) else ((lp (f_X0_touching_L13 V y1 z.2) fu (z.1, 0)).bind (fun x2 => some (.inl (x2, (z.2 + 1)))))
def f_X0_touching (V : CellV) (y1 : Int32) : Option (Int32) := (lp (f_X0_touching_L4 V y1) fu (0, 0)).bind (fun x1 => (f_X4_without x1 y1).bind (fun x8 => some x8))
set_option maxHeartbeats 4000000 in
set_option maxRecDepth 100000 in
theorem c_X0_touching (l : Launch) (D : va_G) (k : Nat → ClassId) (a : Nat → Nat) (V : CellV) (y1 : Int32) (r : Int32) (h : f_X0_touching V y1 = some r) : Met l yX0_touching wsX0_touching rm_X0_touching (va_Pc [.ref (a 0), .int y1] (RB D k (cellsW k a V))) (QR (some (.int r))) 0 0 (fun _ => False) := by
  refine met_Ri (by decide) rfl (Nat.le_of_ble_eq_true rfl) ?_
  intro p e s m below meth c Q args ls hx hb hml hown hts hP hK hN hl hQ
  have hl : lv_has ls 5 [(0, .ref (a 0)), (1, .int y1)] := hl
  have hown : s.vm.findClass RX0 = some m.cls := hown
  unfold f_X0_touching at h
  refine lv_iconst (v := 0) hx hb dX0_touching_0 (by decide) ?_
  refine lv_istore_n (lv' := [(2, .int 0), (0, .ref (a 0)), (1, .int y1)]) hx hb dX0_touching_1 rfl hl (by decide) rfl (fun ls hl => ?_)
  refine lv_iconst (v := 0) hx hb dX0_touching_2 (by decide) ?_
  refine lv_istore_n (lv' := [(3, .int 0), (2, .int 0), (0, .ref (a 0)), (1, .int y1)]) hx hb dX0_touching_3 rfl hl (by decide) rfl (fun ls hl => ?_)
  obtain ⟨x1, h2, h⟩ := bd_s h
  have K34 : ∀ (ls : Array Slot), lv_has ls 5 [(1, .int y1), (2, .int x1)] → W p l e rm_X0_touching s m args below meth c s.heap [] 0 0 Q (F0 m 87 ls []) := by
    intro ls hl
    refine lv_iload_n hx hb dX0_touching_87 rfl (lv_at hl 1 rfl) ?_
    refine lv_iload_n hx hb dX0_touching_88 rfl (lv_at hl 0 rfl) ?_
    obtain ⟨x8, h9, h⟩ := bd_s h
    refine cR_N (As := [.int x1, .int y1]) (rest := []) (n := 2) (v := .int x8) hx hb hml hown hts hK hN hl.1 (c_X4_without l D k x1 y1 x8 h9) hN.2.2.2.1 ggX0_touching_X4_without rfl (hts (.static yX4_without) (by decide +kernel)) (hts (.initialized RX4) (by decide +kernel)) (by decide +kernel) ⟨⟨rfl, rfl⟩, by decide, by decide⟩ va_P_nil rfl rfl (Nat.le_of_ble_eq_true rfl) dX0_touching_89 ⟨Nat.zero_le _, Nat.zero_le _⟩ ?_
    obtain rfl := Option.some.inj h
    exact hQ _ _ dX0_touching_92
  refine lp_W (P := fun z3 => ∀ (ls : Array Slot), lv_has ls 5 [(0, .ref (a 0)), (1, .int y1), (2, .int z3.1), (3, .int z3.2)] → W p l e rm_X0_touching s m args below meth c s.heap [] 0 0 Q (F0 m 4 ls [])) (E := fun x1 => ∀ (ls : Array Slot), lv_has ls 5 [(1, .int y1), (2, .int x1)] → W p l e rm_X0_touching s m args below meth c s.heap [] 0 0 Q (F0 m 87 ls [])) (fun z3 xx5 hB4 kI6 kE7 => ?_) _ _ _ h2 K34 ls (lv_sub hl [2, 3, 1, 0] rfl)
  intro ls hl
  unfold f_X0_touching_L4 at hB4
  refine lv_iload_n hx hb dX0_touching_4 rfl (lv_at hl 3 rfl) ?_
  refine lv_bipush (v := 16) hx hb dX0_touching_5 (by decide) ?_
  refine lv_icmp_ge (tgt := 87) hx hb dX0_touching_7 (by decide) (fun c10 => ?_) (fun c10 => ?_)
  · have hB4 := if_t hB4 c10
    exact kE7 _ (Option.some.inj hB4).symm ls (lv_sub hl [1, 2] rfl)
  · have hB4 := if_f hB4 c10
    refine lv_iconst (v := 0) hx hb dX0_touching_10 (by decide) ?_
    refine lv_istore (lv' := [(4, .int 0), (0, .ref (a 0)), (1, .int y1), (2, .int z3.1), (3, .int z3.2)]) hx hb dX0_touching_11 hl (by decide) rfl (fun ls hl => ?_)
    obtain ⟨x11, h12, hB4⟩ := bd_s hB4
    have K33 : ∀ (ls : Array Slot), lv_has ls 5 [(0, .ref (a 0)), (1, .int y1), (2, .int x11), (3, .int z3.2)] → W p l e rm_X0_touching s m args below meth c s.heap [] 0 0 Q (F0 m 81 ls []) := by
      intro ls hl
      refine lv_iinc (v := (z3.2 + 1)) (lv' := [(3, .int (z3.2 + 1)), (0, .ref (a 0)), (1, .int y1), (2, .int x11)]) hx hb dX0_touching_81 hl (k := 3) rfl rfl (by decide) rfl (fun ls hl => ?_)
      refine lv_goto (tgt := 4) hx hb dX0_touching_84 (by decide) ?_
      exact kI6 _ (Option.some.inj hB4).symm ls (lv_sub hl [1, 2, 3, 0] rfl)
    refine lp_W (P := fun z13 => ∀ (ls : Array Slot), lv_has ls 5 [(0, .ref (a 0)), (1, .int y1), (2, .int z13.1), (3, .int z3.2), (4, .int z13.2)] → W p l e rm_X0_touching s m args below meth c s.heap [] 0 0 Q (F0 m 13 ls [])) (E := fun x11 => ∀ (ls : Array Slot), lv_has ls 5 [(0, .ref (a 0)), (1, .int y1), (2, .int x11), (3, .int z3.2)] → W p l e rm_X0_touching s m args below meth c s.heap [] 0 0 Q (F0 m 81 ls [])) (fun z13 xx15 hB14 kI16 kE17 => ?_) _ _ _ h12 K33 ls (lv_sub hl [1, 2, 3, 4, 0] rfl)
    intro ls hl
    unfold f_X0_touching_L13 at hB14
    refine lv_iload hx hb dX0_touching_13 (lv_at hl 4 rfl) ?_
    refine lv_bipush (v := 16) hx hb dX0_touching_15 (by decide) ?_
    refine lv_icmp_ge (tgt := 81) hx hb dX0_touching_17 (by decide) (fun c18 => ?_) (fun c18 => ?_)
    · have hB14 := if_t hB14 c18
      exact kE17 _ (Option.some.inj hB14).symm ls (lv_sub hl [0, 1, 2, 3] rfl)
    · have hB14 := if_f hB14 c18
      refine lv_aload_n hx hb dX0_touching_20 rfl (lv_at hl 0 rfl) ?_
      refine lv_iload hx hb dX0_touching_21 (lv_at hl 4 rfl) ?_
      refine lv_iload_n hx hb dX0_touching_23 rfl (lv_at hl 3 rfl) ?_
      obtain ⟨x19, h20, hB14⟩ := bd_s hB14
      refine cR_V (As := [.int z13.2, .int z3.2]) (rest := []) (n := 2) (v := .int x19) hx hb hml hown hts hK hN hl.1 (c_X0_ownerAt l D k a V z13.2 z3.2 x19 h20) gX0_touching_X0_ownerAt rfl (by decide +kernel) ⟨⟨rfl, rfl⟩, by decide, by decide⟩ hP 0 0 rfl rfl rfl rfl rfl (Nat.le_of_ble_eq_true rfl) dX0_touching_24 ⟨Nat.zero_le _, Nat.zero_le _⟩ ?_
      refine lv_iload_n hx hb dX0_touching_27 rfl (lv_at hl 1 rfl) ?_
      obtain ⟨x21, h22, hB14⟩ := bd_s hB14
      have K23 : ∀ (ls : Array Slot), lv_has ls 5 [(0, .ref (a 0)), (1, .int y1), (2, .int x21), (3, .int z3.2), (4, .int z13.2)] → W p l e rm_X0_touching s m args below meth c s.heap [] 0 0 Q (F0 m 75 ls []) := by
        intro ls hl
        refine lv_iinc (v := (z13.2 + 1)) (lv' := [(4, .int (z13.2 + 1)), (0, .ref (a 0)), (1, .int y1), (2, .int x21), (3, .int z3.2)]) hx hb dX0_touching_75 hl (k := 4) rfl rfl (by decide) rfl (fun ls hl => ?_)
        refine lv_goto (tgt := 13) hx hb dX0_touching_78 (by decide) ?_
        exact kI16 _ (Option.some.inj hB14).symm ls (lv_sub hl [1, 2, 3, 4, 0] rfl)
      refine lv_icmp_ne (tgt := 75) hx hb dX0_touching_28 (by decide) (fun c24 => ?_) (fun c24 => ?_)
      · have h22 := if_f h22 c24
        obtain rfl := Option.some.inj h22
        exact K23 ls (lv_sub hl [0, 1, 2, 3, 4] rfl)
      · have h22 := if_t h22 c24
        refine lv_iload_n hx hb dX0_touching_31 rfl (lv_at hl 2 rfl) ?_
        refine lv_aload_n hx hb dX0_touching_32 rfl (lv_at hl 0 rfl) ?_
        refine lv_iload hx hb dX0_touching_33 (lv_at hl 4 rfl) ?_
        refine lv_iconst (v := 1) hx hb dX0_touching_35 (by decide) ?_
        refine lv_isub hx hb dX0_touching_36 ?_
        refine lv_iload_n hx hb dX0_touching_37 rfl (lv_at hl 3 rfl) ?_
        obtain ⟨x25, h26, h22⟩ := bd_s h22
        refine cR_V (As := [.int (z13.2 - 1), .int z3.2]) (rest := [.int z13.1]) (n := 2) (v := .int x25) hx hb hml hown hts hK hN hl.1 (c_X0_ownersAt l D k a V (z13.2 - 1) z3.2 x25 h26) gX0_touching_X0_ownersAt rfl (by decide +kernel) ⟨⟨rfl, rfl⟩, by decide, by decide⟩ hP 0 0 rfl rfl rfl rfl rfl (Nat.le_of_ble_eq_true rfl) dX0_touching_38 ⟨Nat.zero_le _, Nat.zero_le _⟩ ?_
        refine lv_aload_n hx hb dX0_touching_41 rfl (lv_at hl 0 rfl) ?_
        refine lv_iload hx hb dX0_touching_42 (lv_at hl 4 rfl) ?_
        refine lv_iconst (v := 1) hx hb dX0_touching_44 (by decide) ?_
        refine lv_iadd hx hb dX0_touching_45 ?_
        refine lv_iload_n hx hb dX0_touching_46 rfl (lv_at hl 3 rfl) ?_
        obtain ⟨x27, h28, h22⟩ := bd_s h22
        refine cR_V (As := [.int (z13.2 + 1), .int z3.2]) (rest := [.int x25, .int z13.1]) (n := 2) (v := .int x27) hx hb hml hown hts hK hN hl.1 (c_X0_ownersAt l D k a V (z13.2 + 1) z3.2 x27 h28) gX0_touching_X0_ownersAt rfl (by decide +kernel) ⟨⟨rfl, rfl⟩, by decide, by decide⟩ hP 0 0 rfl rfl rfl rfl rfl (Nat.le_of_ble_eq_true rfl) dX0_touching_47 ⟨Nat.zero_le _, Nat.zero_le _⟩ ?_
        refine lv_ior hx hb dX0_touching_50 ?_
        refine lv_ior hx hb dX0_touching_51 ?_
        refine lv_istore_n (lv' := [(2, .int (z13.1 ||| (x25 ||| x27))), (0, .ref (a 0)), (1, .int y1), (3, .int z3.2), (4, .int z13.2)]) hx hb dX0_touching_52 rfl hl (by decide) rfl (fun ls hl => ?_)
        refine lv_iload_n hx hb dX0_touching_53 rfl (lv_at hl 0 rfl) ?_
        refine lv_aload_n hx hb dX0_touching_54 rfl (lv_at hl 1 rfl) ?_
        refine lv_iload hx hb dX0_touching_55 (lv_at hl 4 rfl) ?_
        refine lv_iload_n hx hb dX0_touching_57 rfl (lv_at hl 3 rfl) ?_
        refine lv_iconst (v := 1) hx hb dX0_touching_58 (by decide) ?_
        refine lv_isub hx hb dX0_touching_59 ?_
        obtain ⟨x29, h30, h22⟩ := bd_s h22
        refine cR_V (As := [.int z13.2, .int (z3.2 - 1)]) (rest := [.int (z13.1 ||| (x25 ||| x27))]) (n := 2) (v := .int x29) hx hb hml hown hts hK hN hl.1 (c_X0_ownersAt l D k a V z13.2 (z3.2 - 1) x29 h30) gX0_touching_X0_ownersAt rfl (by decide +kernel) ⟨⟨rfl, rfl⟩, by decide, by decide⟩ hP 0 0 rfl rfl rfl rfl rfl (Nat.le_of_ble_eq_true rfl) dX0_touching_60 ⟨Nat.zero_le _, Nat.zero_le _⟩ ?_
        refine lv_aload_n hx hb dX0_touching_63 rfl (lv_at hl 1 rfl) ?_
        refine lv_iload hx hb dX0_touching_64 (lv_at hl 4 rfl) ?_
        refine lv_iload_n hx hb dX0_touching_66 rfl (lv_at hl 3 rfl) ?_
        refine lv_iconst (v := 1) hx hb dX0_touching_67 (by decide) ?_
        refine lv_iadd hx hb dX0_touching_68 ?_
        obtain ⟨x31, h32, h22⟩ := bd_s h22
        refine cR_V (As := [.int z13.2, .int (z3.2 + 1)]) (rest := [.int x29, .int (z13.1 ||| (x25 ||| x27))]) (n := 2) (v := .int x31) hx hb hml hown hts hK hN hl.1 (c_X0_ownersAt l D k a V z13.2 (z3.2 + 1) x31 h32) gX0_touching_X0_ownersAt rfl (by decide +kernel) ⟨⟨rfl, rfl⟩, by decide, by decide⟩ hP 0 0 rfl rfl rfl rfl rfl (Nat.le_of_ble_eq_true rfl) dX0_touching_69 ⟨Nat.zero_le _, Nat.zero_le _⟩ ?_
        refine lv_ior hx hb dX0_touching_72 ?_
        refine lv_ior hx hb dX0_touching_73 ?_
        refine lv_istore_n (lv' := [(2, .int ((z13.1 ||| (x25 ||| x27)) ||| (x29 ||| x31))), (0, .ref (a 0)), (1, .int y1), (3, .int z3.2), (4, .int z13.2)]) hx hb dX0_touching_74 rfl hl (by decide) rfl (fun ls hl => ?_)
        obtain rfl := Option.some.inj h22
        exact K23 ls (lv_sub hl [1, 2, 0, 3, 4] rfl)

abbrev rm_X0_inBoth : Room := { frames := 0, cells := 0, slots := 0, locals := 0 }
def f_X0_inBoth_L6 (V : CellV) (V2 : CellV) (y1 : Int32) (y3 : Int32) (z : Int32 × Int32) : Option ((Int32 × Int32) ⊕ (Int32)) := if 256 ≤ z.2 then (some (.inr z.1)) else (gd (ix z.2 256) ((if (V.2.1 (z.2 : Int32).toNatClampNeg) = y1 then (gd (ix z.2 256) (if (V2.2.1 (z.2 : Int32).toNatClampNeg) = y3 then (some (z.1 + 1)) else (some z.1))) else (some z.1) : Option (Int32)).bind (fun x3 => some (.inl (x3, (z.2 + 1))))))
def f_X0_inBoth (V : CellV) (V2 : CellV) (y1 : Int32) (y3 : Int32) : Option (Int32) := (lp (f_X0_inBoth_L6 V V2 y1 y3) fu (0, 0)).bind (fun x1 => some x1)
set_option maxHeartbeats 4000000 in
set_option maxRecDepth 100000 in
theorem c_X0_inBoth (l : Launch) (D : va_G) (k : Nat → ClassId) (a : Nat → Nat) (b : Nat → Nat) (V : CellV) (V2 : CellV) (y1 : Int32) (y3 : Int32) (r : Int32) (h : f_X0_inBoth V V2 y1 y3 = some r) : Met l yX0_inBoth wsX0_inBoth rm_X0_inBoth (va_Pc [.ref (a 0), .int y1, .ref (b 0), .int y3] (RB D k (cellsW k a V ++ (cellsW k b V2)))) (QR (some (.int r))) 0 0 (fun _ => False) := by
  refine met_Ri (by decide) rfl (Nat.le_of_ble_eq_true rfl) ?_
  intro p e s m below meth c Q args ls hx hb hml hown hts hP hK hN hl hQ
  have hl : lv_has ls 6 [(0, .ref (a 0)), (1, .int y1), (2, .ref (b 0)), (3, .int y3)] := hl
  have hown : s.vm.findClass RX0 = some m.cls := hown
  unfold f_X0_inBoth at h
  have hiRX0 : ∀ w ∈ u_ws RX0 TX0 4, w ∈ wsX0_inBoth := by decide +kernel
  have hf15 := hts (.fieldLink RX0 15 "RainCells$Cells" "owners" "[I") (by decide +kernel)
  refine lv_iconst (v := 0) hx hb dX0_inBoth_0 (by decide) ?_
  refine lv_istore (lv' := [(4, .int 0), (0, .ref (a 0)), (1, .int y1), (2, .ref (b 0)), (3, .int y3)]) hx hb dX0_inBoth_1 hl (by decide) rfl (fun ls hl => ?_)
  refine lv_iconst (v := 0) hx hb dX0_inBoth_3 (by decide) ?_
  refine lv_istore (lv' := [(5, .int 0), (4, .int 0), (0, .ref (a 0)), (1, .int y1), (2, .ref (b 0)), (3, .int y3)]) hx hb dX0_inBoth_4 hl (by decide) rfl (fun ls hl => ?_)
  obtain ⟨x1, h2, h⟩ := bd_s h
  have K16 : ∀ (ls : Array Slot), lv_has ls 6 [(4, .int x1)] → W p l e rm_X0_inBoth s m args below meth c s.heap [] 0 0 Q (F0 m 45 ls []) := by
    intro ls hl
    refine lv_iload hx hb dX0_inBoth_45 (lv_at hl 0 rfl) ?_
    obtain rfl := Option.some.inj h
    exact hQ _ _ dX0_inBoth_47
  refine lp_W (P := fun z3 => ∀ (ls : Array Slot), lv_has ls 6 [(0, .ref (a 0)), (1, .int y1), (2, .ref (b 0)), (3, .int y3), (4, .int z3.1), (5, .int z3.2)] → W p l e rm_X0_inBoth s m args below meth c s.heap [] 0 0 Q (F0 m 6 ls [])) (E := fun x1 => ∀ (ls : Array Slot), lv_has ls 6 [(4, .int x1)] → W p l e rm_X0_inBoth s m args below meth c s.heap [] 0 0 Q (F0 m 45 ls [])) (fun z3 xx5 hB4 kI6 kE7 => ?_) _ _ _ h2 K16 ls (lv_sub hl [2, 3, 4, 5, 1, 0] rfl)
  intro ls hl
  unfold f_X0_inBoth_L6 at hB4
  refine lv_iload hx hb dX0_inBoth_6 (lv_at hl 5 rfl) ?_
  refine lv_sipush (v := 256) hx hb dX0_inBoth_8 (by decide) ?_
  refine lv_icmp_ge (tgt := 45) hx hb dX0_inBoth_11 (by decide) (fun c8 => ?_) (fun c8 => ?_)
  · have hB4 := if_t hB4 c8
    exact kE7 _ (Option.some.inj hB4).symm ls (lv_sub hl [4] rfl)
  · have hB4 := if_f hB4 c8
    refine lv_aload_n hx hb dX0_inBoth_14 rfl (lv_at hl 0 rfl) ?_
    refine va_get (D := D) (ci := 0) (v := .ref (a 1)) (C := RX0) (T := TX0) (N := 4) hx hb hts hiRX0 hown hK hP 0 rfl rfl 1 (by decide) hf15 (fun _ h9 => h9) rfl dX0_inBoth_15 ?_
    refine lv_iload hx hb dX0_inBoth_18 (lv_at hl 5 rfl) ?_
    obtain ⟨c9, hB4⟩ := gd_s hB4
    refine va_iald (D := D) hx hb hK hP 1 0 rfl rfl (ix_in c9) dX0_inBoth_20 ?_
    refine lv_iload_n hx hb dX0_inBoth_21 rfl (lv_at hl 1 rfl) ?_
    obtain ⟨x10, h11, hB4⟩ := bd_s hB4
    have K12 : ∀ (ls : Array Slot), lv_has ls 6 [(0, .ref (a 0)), (1, .int y1), (2, .ref (b 0)), (3, .int y3), (4, .int x10), (5, .int z3.2)] → W p l e rm_X0_inBoth s m args below meth c s.heap [] 0 0 Q (F0 m 39 ls []) := by
      intro ls hl
      refine lv_iinc (v := (z3.2 + 1)) (lv' := [(5, .int (z3.2 + 1)), (0, .ref (a 0)), (1, .int y1), (2, .ref (b 0)), (3, .int y3), (4, .int x10)]) hx hb dX0_inBoth_39 hl (k := 5) rfl rfl (by decide) rfl (fun ls hl => ?_)
      refine lv_goto (tgt := 6) hx hb dX0_inBoth_42 (by decide) ?_
      exact kI6 _ (Option.some.inj hB4).symm ls (lv_sub hl [1, 2, 3, 4, 5, 0] rfl)
    refine lv_icmp_ne (tgt := 39) hx hb dX0_inBoth_22 (by decide) (fun c13 => ?_) (fun c13 => ?_)
    · have h11 := if_f h11 c13
      obtain rfl := Option.some.inj h11
      exact K12 ls (lv_sub hl [0, 1, 2, 3, 4, 5] rfl)
    · have h11 := if_t h11 c13
      refine lv_aload_n hx hb dX0_inBoth_25 rfl (lv_at hl 2 rfl) ?_
      refine va_get (D := D) (ci := 0) (v := .ref (b 1)) (C := RX0) (T := TX0) (N := 4) hx hb hts hiRX0 hown hK hP 4 rfl rfl 1 (by decide) hf15 (fun _ h9 => h9) rfl dX0_inBoth_26 ?_
      refine lv_iload hx hb dX0_inBoth_29 (lv_at hl 5 rfl) ?_
      obtain ⟨c14, h11⟩ := gd_s h11
      refine va_iald (D := D) hx hb hK hP 5 0 rfl rfl (ix_in c14) dX0_inBoth_31 ?_
      refine lv_iload_n hx hb dX0_inBoth_32 rfl (lv_at hl 3 rfl) ?_
      refine lv_icmp_ne (tgt := 39) hx hb dX0_inBoth_33 (by decide) (fun c15 => ?_) (fun c15 => ?_)
      · have h11 := if_f h11 c15
        obtain rfl := Option.some.inj h11
        exact K12 ls (lv_sub hl [0, 1, 2, 3, 4, 5] rfl)
      · have h11 := if_t h11 c15
        refine lv_iinc (v := (z3.1 + 1)) (lv' := [(4, .int (z3.1 + 1)), (0, .ref (a 0)), (1, .int y1), (2, .ref (b 0)), (3, .int y3), (5, .int z3.2)]) hx hb dX0_inBoth_36 hl (k := 4) rfl rfl (by decide) rfl (fun ls hl => ?_)
        obtain rfl := Option.some.inj h11
        exact K12 ls (lv_sub hl [1, 2, 3, 4, 0, 5] rfl)
