/-! written by wip/whole/gen.py -/
abbrev rm_X5_lookUp : Room := { frames := 0, cells := 0, slots := 0, locals := 0 }
def f_X5_lookUp_L5 (M : ModelV) (y1 : Int32) (z : Int32 × Int32) : Option ((Int32 × Int32) ⊕ (Int32)) := if M.2.2.2.2.2.2.2.2.2.1 ≤ z.2 then (some (.inr z.1)) else (gd (ix z.2 6) ((if (M.2.2.2.2.2.2.2.2.1 (z.2 : Int32).toNatClampNeg) = y1 then (some z.2) else (some z.1) : Option (Int32)).bind (fun x3 => some (.inl (x3, (z.2 + 1))))))
def f_X5_lookUp_L149 (y1 : Int32) (z : Int32 × ModelV) : Option ((Int32 × ModelV) ⊕ (ModelV)) := if ((z.2).2.2.2.2.2.2.2.2.2.1 - 1) ≤ z.1 then (some (.inr z.2)) else (gd (ix (z.1 + 1) 6) (gd (ix z.1 6) (some (.inl ((z.1 + 1), ((z.2).1, (z.2).2.1, (z.2).2.2.1, (z.2).2.2.2.1, (z.2).2.2.2.2.1, (z.2).2.2.2.2.2.1, (z.2).2.2.2.2.2.2.1, (z.2).2.2.2.2.2.2.2.1, (upd ((z.2).2.2.2.2.2.2.2.2.1) (z.1 : Int32).toNatClampNeg (((z.2).2.2.2.2.2.2.2.2.1) ((z.1 + 1) : Int32).toNatClampNeg)), (z.2).2.2.2.2.2.2.2.2.2))))))
def f_X5_lookUp (M : ModelV) (y1 : Int32) : Option (ModelV) := (lp (f_X5_lookUp_L5 M y1) fu ((-6), 0)).bind (fun x1 => if y1 = 0 then (some M) else ((if x1 < 0 then ((if M.2.2.2.2.2.2.2.2.2.1 = 6 then (some 1) else (some 0) : Option (Int32)).bind (fun x35 => some (M.1, M.2.1, M.2.2.1, M.2.2.2.1, M.2.2.2.2.1, M.2.2.2.2.2.1, M.2.2.2.2.2.2.1, M.2.2.2.2.2.2.2.1, M.2.2.2.2.2.2.2.2.1, M.2.2.2.2.2.2.2.2.2.1, M.2.2.2.2.2.2.2.2.2.2.1, (M.2.2.2.2.2.2.2.2.2.2.2.1 + 1), (M.2.2.2.2.2.2.2.2.2.2.2.2.1 + x35), M.2.2.2.2.2.2.2.2.2.2.2.2.2))) else (some (M.1, M.2.1, M.2.2.1, M.2.2.2.1, M.2.2.2.2.1, M.2.2.2.2.2.1, M.2.2.2.2.2.2.1, M.2.2.2.2.2.2.2.1, M.2.2.2.2.2.2.2.2.1, M.2.2.2.2.2.2.2.2.2.1, (M.2.2.2.2.2.2.2.2.2.2.1 + 1), M.2.2.2.2.2.2.2.2.2.2.2)) : Option (ModelV)).bind (fun x9 => (if x1 < 0 then (if x9.2.2.2.2.2.2.2.2.2.1 = 6 then (some 0) else (some x9.2.2.2.2.2.2.2.2.2.1)) else (some x1) : Option (Int32)).bind (fun x12 => (if 0 ≤ x1 then (some x9.2.2.2.2.2.2.2.2.2.1) else (if x9.2.2.2.2.2.2.2.2.2.1 = 6 then (some x9.2.2.2.2.2.2.2.2.2.1) else (some (x9.2.2.2.2.2.2.2.2.2.1 + 1))) : Option (Int32)).bind (fun x15 => (lp (f_X5_lookUp_L149 y1) fu (x12, (x9.1, x9.2.1, x9.2.2.1, x9.2.2.2.1, x9.2.2.2.2.1, x9.2.2.2.2.2.1, x9.2.2.2.2.2.2.1, x9.2.2.2.2.2.2.2.1, x9.2.2.2.2.2.2.2.2.1, x15, x9.2.2.2.2.2.2.2.2.2.2))).bind (fun x18 => gd (ix (x18.2.2.2.2.2.2.2.2.2.1 - 1) 6) (some (x18.1, x18.2.1, x18.2.2.1, x18.2.2.2.1, x18.2.2.2.2.1, x18.2.2.2.2.2.1, x18.2.2.2.2.2.2.1, x18.2.2.2.2.2.2.2.1, (upd x18.2.2.2.2.2.2.2.2.1 ((x18.2.2.2.2.2.2.2.2.2.1 - 1) : Int32).toNatClampNeg y1), x18.2.2.2.2.2.2.2.2.2))))))))
set_option maxHeartbeats 4000000 in
set_option maxRecDepth 100000 in
theorem c_X5_lookUp (l : Launch) (D : va_G) (k : Nat → ClassId) (a : Nat → Nat) (M : ModelV) (y1 : Int32) (r : ModelV) (h : f_X5_lookUp M y1 = some r) : Met l yX5_lookUp wsX5_lookUp rm_X5_lookUp (va_Pc [.ref (a 0), .int y1] (MB D k (modelW k a M))) (QM D (modelW k a M) (modelW k a r) none) 0 0 (AD (modelW k a M)) := by
  refine met_Mv (by decide) rfl (Nat.le_of_ble_eq_true rfl) ?_
  intro p e s m below meth c Q args ls hx hb hml hown hts hP hK hN hD hl hQ
  have hl : lv_has ls 5 [(0, .ref (a 0)), (1, .int y1)] := hl
  have hown : s.vm.findClass RX5 = some m.cls := hown
  unfold f_X5_lookUp at h
  have hiRX5 : ∀ w ∈ u_ws RX5 TX5 19, w ∈ wsX5_lookUp := by decide +kernel
  have hf61 := hts (.fieldLink RX5 61 "RainCellsModel" "kept" "I") (by decide +kernel)
  have hf32 := hts (.fieldLink RX5 32 "RainCellsModel" "sets" "[I") (by decide +kernel)
  have hf106 := hts (.fieldLink RX5 106 "RainCellsModel" "worked" "I") (by decide +kernel)
  have hf109 := hts (.fieldLink RX5 109 "RainCellsModel" "gone" "I") (by decide +kernel)
  have hf103 := hts (.fieldLink RX5 103 "RainCellsModel" "found" "I") (by decide +kernel)
  generalize AD (modelW k a M) = A0 at hD hQ
  have hS : va_S A0 s.heap s.heap [] := va_S.rf
  refine lv_bipush (v := (-6)) hx hb dX5_lookUp_0 (by decide) ?_
  refine lv_istore_n (lv' := [(2, .int (-6)), (0, .ref (a 0)), (1, .int y1)]) hx hb dX5_lookUp_2 rfl hl (by decide) rfl (fun ls hl => ?_)
  refine lv_iconst (v := 0) hx hb dX5_lookUp_3 (by decide) ?_
  refine lv_istore_n (lv' := [(3, .int 0), (2, .int (-6)), (0, .ref (a 0)), (1, .int y1)]) hx hb dX5_lookUp_4 rfl hl (by decide) rfl (fun ls hl => ?_)
  obtain ⟨x1, h2, h⟩ := bd_s h
  have K45 : ∀ (ls : Array Slot), lv_has ls 5 [(0, .ref (a 0)), (1, .int y1), (2, .int x1)] → W p l e rm_X5_lookUp s m args below meth c s.heap [] 0 0 Q (F0 m 35 ls []) := by
    intro ls hl
    refine lv_iload_n hx hb dX5_lookUp_35 rfl (lv_at hl 1 rfl) ?_
    refine lv_if_ne (tgt := 40) hx hb dX5_lookUp_36 (by decide) (fun c8 => ?_) (fun c8 => ?_)
    · have h := if_f h c8
      refine lv_iload_n hx hb dX5_lookUp_40 rfl (lv_at hl 2 rfl) ?_
      obtain ⟨x9, h10, h⟩ := bd_s h
      have K11 : ∀ (ls : Array Slot) (H : Heap) (locs : List Loc), lv_has ls 5 [(0, .ref (a 0)), (1, .int y1), (2, .int x1)] → va_P D vwCl (modelW k a x9) H → va_D A0 (modelW k a x9) → va_S A0 s.heap H locs → W p l e rm_X5_lookUp s m args below meth c H locs 0 0 Q (F0 m 90 ls []) := by
        intro ls H locs hl hP hD hS
        refine lv_iload_n hx hb dX5_lookUp_90 rfl (lv_at hl 2 rfl) ?_
        obtain ⟨x12, h13, h⟩ := bd_s h
        have K14 : W p l e rm_X5_lookUp s m args below meth c H locs 0 0 Q (F0 m 115 ls [.int x12]) := by
          refine lv_istore_n (lv' := [(3, .int x12), (0, .ref (a 0)), (1, .int y1), (2, .int x1)]) hx hb dX5_lookUp_115 rfl hl (by decide) rfl (fun ls hl => ?_)
          refine lv_aload_n hx hb dX5_lookUp_116 rfl (lv_at hl 1 rfl) ?_
          refine lv_iload_n hx hb dX5_lookUp_117 rfl (lv_at hl 3 rfl) ?_
          obtain ⟨x15, h16, h⟩ := bd_s h
          have K17 : W p l e rm_X5_lookUp s m args below meth c H locs 0 0 Q (F0 m 143 ls [.int x15, .ref (a 0)]) := by
            refine va_put (D := D) (ci := 5) (v := .int x15) (ty := .int) (C := RX5) (T := TX5) (N := 19) hx hb hts hiRX5 tyX5 tyX5_ok nmX5 hown hK hP hD hS 0 rfl rfl 9 (by decide) hf61 (fun _ h9 => h9) rfl (by decide +kernel) rfl rfl (Nat.le_of_ble_eq_true rfl) dX5_lookUp_143 (fun H locs hP hD hS => ?_)
            have hP : va_P D vwCl (modelW k a (x9.1, x9.2.1, x9.2.2.1, x9.2.2.2.1, x9.2.2.2.2.1, x9.2.2.2.2.2.1, x9.2.2.2.2.2.2.1, x9.2.2.2.2.2.2.2.1, x9.2.2.2.2.2.2.2.2.1, x15, x9.2.2.2.2.2.2.2.2.2.2)) H := hP
            have hD : va_D A0 (modelW k a (x9.1, x9.2.1, x9.2.2.1, x9.2.2.2.1, x9.2.2.2.2.1, x9.2.2.2.2.2.1, x9.2.2.2.2.2.2.1, x9.2.2.2.2.2.2.2.1, x9.2.2.2.2.2.2.2.2.1, x15, x9.2.2.2.2.2.2.2.2.2.2)) := hD
            refine lv_iload_n hx hb dX5_lookUp_146 rfl (lv_at hl 0 rfl) ?_
            refine lv_istore (lv' := [(4, .int x12), (3, .int x12), (0, .ref (a 0)), (1, .int y1), (2, .int x1)]) hx hb dX5_lookUp_147 hl (by decide) rfl (fun ls hl => ?_)
            obtain ⟨x18, h19, h⟩ := bd_s h
            have K29 : ∀ (ls : Array Slot) (H : Heap) (locs : List Loc), lv_has ls 5 [(0, .ref (a 0)), (1, .int y1)] → va_P D vwCl (modelW k a x18) H → va_D A0 (modelW k a x18) → va_S A0 s.heap H locs → W p l e rm_X5_lookUp s m args below meth c H locs 0 0 Q (F0 m 182 ls []) := by
              intro ls H locs hl hP hD hS
              refine lv_aload_n hx hb dX5_lookUp_182 rfl (lv_at hl 0 rfl) ?_
              refine va_get (D := D) (ci := 5) (v := .ref (a 8)) (C := RX5) (T := TX5) (N := 19) hx hb hts hiRX5 hown hK hP 0 rfl rfl 8 (by decide) hf32 (fun _ h9 => h9) rfl dX5_lookUp_183 ?_
              refine lv_aload_n hx hb dX5_lookUp_186 rfl (lv_at hl 0 rfl) ?_
              refine va_get (D := D) (ci := 5) (v := .int x18.2.2.2.2.2.2.2.2.2.1) (C := RX5) (T := TX5) (N := 19) hx hb hts hiRX5 hown hK hP 0 rfl rfl 9 (by decide) hf61 (fun _ h9 => h9) rfl dX5_lookUp_187 ?_
              refine lv_iconst (v := 1) hx hb dX5_lookUp_190 (by decide) ?_
              refine lv_isub hx hb dX5_lookUp_191 ?_
              refine lv_iload_n hx hb dX5_lookUp_192 rfl (lv_at hl 1 rfl) ?_
              obtain ⟨c25, h⟩ := gd_s h
              refine va_iast (D := D) hx hb hK hP hD hS 8 0 rfl rfl (ix_in c25) dX5_lookUp_193 (fun H locs hP hD hS => ?_)
              have hP : va_P D vwCl (modelW k a (x18.1, x18.2.1, x18.2.2.1, x18.2.2.2.1, x18.2.2.2.2.1, x18.2.2.2.2.2.1, x18.2.2.2.2.2.2.1, x18.2.2.2.2.2.2.2.1, (upd x18.2.2.2.2.2.2.2.2.1 ((x18.2.2.2.2.2.2.2.2.2.1 - 1) : Int32).toNatClampNeg y1), x18.2.2.2.2.2.2.2.2.2)) H := hP
              have hD : va_D A0 (modelW k a (x18.1, x18.2.1, x18.2.2.1, x18.2.2.2.1, x18.2.2.2.2.1, x18.2.2.2.2.2.1, x18.2.2.2.2.2.2.1, x18.2.2.2.2.2.2.2.1, (upd x18.2.2.2.2.2.2.2.2.1 ((x18.2.2.2.2.2.2.2.2.2.1 - 1) : Int32).toNatClampNeg y1), x18.2.2.2.2.2.2.2.2.2)) := hD
              obtain rfl := Option.some.inj h
              exact hQ _ _ _ _ dX5_lookUp_194 hP hS
            refine lp_W (P := fun z20 => ∀ (ls : Array Slot) (H : Heap) (locs : List Loc), lv_has ls 5 [(0, .ref (a 0)), (1, .int y1), (4, .int z20.1)] → va_P D vwCl (modelW k a z20.2) H → va_D A0 (modelW k a z20.2) → va_S A0 s.heap H locs → W p l e rm_X5_lookUp s m args below meth c H locs 0 0 Q (F0 m 149 ls [])) (E := fun x18 => ∀ (ls : Array Slot) (H : Heap) (locs : List Loc), lv_has ls 5 [(0, .ref (a 0)), (1, .int y1)] → va_P D vwCl (modelW k a x18) H → va_D A0 (modelW k a x18) → va_S A0 s.heap H locs → W p l e rm_X5_lookUp s m args below meth c H locs 0 0 Q (F0 m 182 ls [])) (fun z20 xx22 hB21 kI23 kE24 => ?_) _ _ _ h19 K29 ls H locs (lv_sub hl [2, 3, 0] rfl) hP hD hS
            intro ls H locs hl hP hD hS
            unfold f_X5_lookUp_L149 at hB21
            refine lv_iload hx hb dX5_lookUp_149 (lv_at hl 2 rfl) ?_
            refine lv_aload_n hx hb dX5_lookUp_151 rfl (lv_at hl 0 rfl) ?_
            refine va_get (D := D) (ci := 5) (v := .int ((z20.2).2.2.2.2.2.2.2.2.2.1)) (C := RX5) (T := TX5) (N := 19) hx hb hts hiRX5 hown hK hP 0 rfl rfl 9 (by decide) hf61 (fun _ h9 => h9) rfl dX5_lookUp_152 ?_
            refine lv_iconst (v := 1) hx hb dX5_lookUp_155 (by decide) ?_
            refine lv_isub hx hb dX5_lookUp_156 ?_
            refine lv_icmp_ge (tgt := 182) hx hb dX5_lookUp_157 (by decide) (fun c26 => ?_) (fun c26 => ?_)
            · have hB21 := if_t hB21 c26
              exact kE24 _ (Option.some.inj hB21).symm ls H locs (lv_sub hl [0, 1] rfl) hP hD hS
            · have hB21 := if_f hB21 c26
              refine lv_aload_n hx hb dX5_lookUp_160 rfl (lv_at hl 0 rfl) ?_
              refine va_get (D := D) (ci := 5) (v := .ref (a 8)) (C := RX5) (T := TX5) (N := 19) hx hb hts hiRX5 hown hK hP 0 rfl rfl 8 (by decide) hf32 (fun _ h9 => h9) rfl dX5_lookUp_161 ?_
              refine lv_iload hx hb dX5_lookUp_164 (lv_at hl 2 rfl) ?_
              refine lv_aload_n hx hb dX5_lookUp_166 rfl (lv_at hl 0 rfl) ?_
              refine va_get (D := D) (ci := 5) (v := .ref (a 8)) (C := RX5) (T := TX5) (N := 19) hx hb hts hiRX5 hown hK hP 0 rfl rfl 8 (by decide) hf32 (fun _ h9 => h9) rfl dX5_lookUp_167 ?_
              refine lv_iload hx hb dX5_lookUp_170 (lv_at hl 2 rfl) ?_
              refine lv_iconst (v := 1) hx hb dX5_lookUp_172 (by decide) ?_
              refine lv_iadd hx hb dX5_lookUp_173 ?_
              obtain ⟨c27, hB21⟩ := gd_s hB21
              refine va_iald (D := D) hx hb hK hP 8 0 rfl rfl (ix_in c27) dX5_lookUp_174 ?_
              obtain ⟨c28, hB21⟩ := gd_s hB21
              refine va_iast (D := D) hx hb hK hP hD hS 8 0 rfl rfl (ix_in c28) dX5_lookUp_175 (fun H locs hP hD hS => ?_)
              have hP : va_P D vwCl (modelW k a ((z20.2).1, (z20.2).2.1, (z20.2).2.2.1, (z20.2).2.2.2.1, (z20.2).2.2.2.2.1, (z20.2).2.2.2.2.2.1, (z20.2).2.2.2.2.2.2.1, (z20.2).2.2.2.2.2.2.2.1, (upd ((z20.2).2.2.2.2.2.2.2.2.1) (z20.1 : Int32).toNatClampNeg (((z20.2).2.2.2.2.2.2.2.2.1) ((z20.1 + 1) : Int32).toNatClampNeg)), (z20.2).2.2.2.2.2.2.2.2.2)) H := hP
              have hD : va_D A0 (modelW k a ((z20.2).1, (z20.2).2.1, (z20.2).2.2.1, (z20.2).2.2.2.1, (z20.2).2.2.2.2.1, (z20.2).2.2.2.2.2.1, (z20.2).2.2.2.2.2.2.1, (z20.2).2.2.2.2.2.2.2.1, (upd ((z20.2).2.2.2.2.2.2.2.2.1) (z20.1 : Int32).toNatClampNeg (((z20.2).2.2.2.2.2.2.2.2.1) ((z20.1 + 1) : Int32).toNatClampNeg)), (z20.2).2.2.2.2.2.2.2.2.2)) := hD
              refine lv_iinc (v := (z20.1 + 1)) (lv' := [(4, .int (z20.1 + 1)), (0, .ref (a 0)), (1, .int y1)]) hx hb dX5_lookUp_176 hl (k := 2) rfl rfl (by decide) rfl (fun ls hl => ?_)
              refine lv_goto (tgt := 149) hx hb dX5_lookUp_179 (by decide) ?_
              exact kI23 _ (Option.some.inj hB21).symm ls H locs (lv_sub hl [1, 2, 0] rfl) hP hD hS
          refine lv_if_ge (tgt := 130) hx hb dX5_lookUp_118 (by decide) (fun c30 => ?_) (fun c30 => ?_)
          · have h16 := if_t h16 c30
            refine lv_aload_n hx hb dX5_lookUp_130 rfl (lv_at hl 1 rfl) ?_
            refine va_get (D := D) (ci := 5) (v := .int x9.2.2.2.2.2.2.2.2.2.1) (C := RX5) (T := TX5) (N := 19) hx hb hts hiRX5 hown hK hP 0 rfl rfl 9 (by decide) hf61 (fun _ h9 => h9) rfl dX5_lookUp_131 ?_
            refine lv_goto (tgt := 143) hx hb dX5_lookUp_134 (by decide) ?_
            obtain rfl := Option.some.inj h16
            exact K17
          · have h16 := if_f h16 c30
            refine lv_aload_n hx hb dX5_lookUp_121 rfl (lv_at hl 1 rfl) ?_
            refine va_get (D := D) (ci := 5) (v := .int x9.2.2.2.2.2.2.2.2.2.1) (C := RX5) (T := TX5) (N := 19) hx hb hts hiRX5 hown hK hP 0 rfl rfl 9 (by decide) hf61 (fun _ h9 => h9) rfl dX5_lookUp_122 ?_
            refine lv_bipush (v := 6) hx hb dX5_lookUp_125 (by decide) ?_
            refine lv_icmp_ne (tgt := 137) hx hb dX5_lookUp_127 (by decide) (fun c31 => ?_) (fun c31 => ?_)
            · have h16 := if_f h16 c31
              refine lv_aload_n hx hb dX5_lookUp_137 rfl (lv_at hl 1 rfl) ?_
              refine va_get (D := D) (ci := 5) (v := .int x9.2.2.2.2.2.2.2.2.2.1) (C := RX5) (T := TX5) (N := 19) hx hb hts hiRX5 hown hK hP 0 rfl rfl 9 (by decide) hf61 (fun _ h9 => h9) rfl dX5_lookUp_138 ?_
              refine lv_iconst (v := 1) hx hb dX5_lookUp_141 (by decide) ?_
              refine lv_iadd hx hb dX5_lookUp_142 ?_
              obtain rfl := Option.some.inj h16
              exact K17
            · have h16 := if_t h16 c31
              refine lv_aload_n hx hb dX5_lookUp_130 rfl (lv_at hl 1 rfl) ?_
              refine va_get (D := D) (ci := 5) (v := .int x9.2.2.2.2.2.2.2.2.2.1) (C := RX5) (T := TX5) (N := 19) hx hb hts hiRX5 hown hK hP 0 rfl rfl 9 (by decide) hf61 (fun _ h9 => h9) rfl dX5_lookUp_131 ?_
              refine lv_goto (tgt := 143) hx hb dX5_lookUp_134 (by decide) ?_
              obtain rfl := Option.some.inj h16
              exact K17
        refine lv_if_lt (tgt := 98) hx hb dX5_lookUp_91 (by decide) (fun c32 => ?_) (fun c32 => ?_)
        · have h13 := if_t h13 c32
          refine lv_aload_n hx hb dX5_lookUp_98 rfl (lv_at hl 0 rfl) ?_
          refine va_get (D := D) (ci := 5) (v := .int x9.2.2.2.2.2.2.2.2.2.1) (C := RX5) (T := TX5) (N := 19) hx hb hts hiRX5 hown hK hP 0 rfl rfl 9 (by decide) hf61 (fun _ h9 => h9) rfl dX5_lookUp_99 ?_
          refine lv_bipush (v := 6) hx hb dX5_lookUp_102 (by decide) ?_
          refine lv_icmp_ne (tgt := 111) hx hb dX5_lookUp_104 (by decide) (fun c33 => ?_) (fun c33 => ?_)
          · have h13 := if_f h13 c33
            refine lv_aload_n hx hb dX5_lookUp_111 rfl (lv_at hl 0 rfl) ?_
            refine va_get (D := D) (ci := 5) (v := .int x9.2.2.2.2.2.2.2.2.2.1) (C := RX5) (T := TX5) (N := 19) hx hb hts hiRX5 hown hK hP 0 rfl rfl 9 (by decide) hf61 (fun _ h9 => h9) rfl dX5_lookUp_112 ?_
            obtain rfl := Option.some.inj h13
            exact K14
          · have h13 := if_t h13 c33
            refine lv_iconst (v := 0) hx hb dX5_lookUp_107 (by decide) ?_
            refine lv_goto (tgt := 115) hx hb dX5_lookUp_108 (by decide) ?_
            obtain rfl := Option.some.inj h13
            exact K14
        · have h13 := if_f h13 c32
          refine lv_iload_n hx hb dX5_lookUp_94 rfl (lv_at hl 2 rfl) ?_
          refine lv_goto (tgt := 115) hx hb dX5_lookUp_95 (by decide) ?_
          obtain rfl := Option.some.inj h13
          exact K14
      refine lv_if_lt (tgt := 57) hx hb dX5_lookUp_41 (by decide) (fun c34 => ?_) (fun c34 => ?_)
      · have h10 := if_t h10 c34
        refine lv_aload_n hx hb dX5_lookUp_57 rfl (lv_at hl 0 rfl) ?_
        refine lv_dup hx hb dX5_lookUp_58 rfl ?_
        refine va_get (D := D) (ci := 5) (v := .int M.2.2.2.2.2.2.2.2.2.2.2.1) (C := RX5) (T := TX5) (N := 19) hx hb hts hiRX5 hown hK hP 0 rfl rfl 11 (by decide) hf106 (fun _ h9 => h9) rfl dX5_lookUp_59 ?_
        refine lv_iconst (v := 1) hx hb dX5_lookUp_62 (by decide) ?_
        refine lv_iadd hx hb dX5_lookUp_63 ?_
        refine va_put (D := D) (ci := 5) (v := .int (M.2.2.2.2.2.2.2.2.2.2.2.1 + 1)) (ty := .int) (C := RX5) (T := TX5) (N := 19) hx hb hts hiRX5 tyX5 tyX5_ok nmX5 hown hK hP hD hS 0 rfl rfl 11 (by decide) hf106 (fun _ h9 => h9) rfl (by decide +kernel) rfl rfl (Nat.le_of_ble_eq_true rfl) dX5_lookUp_64 (fun H locs hP hD hS => ?_)
        have hP : va_P D vwCl (modelW k a (M.1, M.2.1, M.2.2.1, M.2.2.2.1, M.2.2.2.2.1, M.2.2.2.2.2.1, M.2.2.2.2.2.2.1, M.2.2.2.2.2.2.2.1, M.2.2.2.2.2.2.2.2.1, M.2.2.2.2.2.2.2.2.2.1, M.2.2.2.2.2.2.2.2.2.2.1, (M.2.2.2.2.2.2.2.2.2.2.2.1 + 1), M.2.2.2.2.2.2.2.2.2.2.2.2)) H := hP
        have hD : va_D A0 (modelW k a (M.1, M.2.1, M.2.2.1, M.2.2.2.1, M.2.2.2.2.1, M.2.2.2.2.2.1, M.2.2.2.2.2.2.1, M.2.2.2.2.2.2.2.1, M.2.2.2.2.2.2.2.2.1, M.2.2.2.2.2.2.2.2.2.1, M.2.2.2.2.2.2.2.2.2.2.1, (M.2.2.2.2.2.2.2.2.2.2.2.1 + 1), M.2.2.2.2.2.2.2.2.2.2.2.2)) := hD
        refine lv_aload_n hx hb dX5_lookUp_67 rfl (lv_at hl 0 rfl) ?_
        refine lv_dup hx hb dX5_lookUp_68 rfl ?_
        refine va_get (D := D) (ci := 5) (v := .int M.2.2.2.2.2.2.2.2.2.2.2.2.1) (C := RX5) (T := TX5) (N := 19) hx hb hts hiRX5 hown hK hP 0 rfl rfl 12 (by decide) hf109 (fun _ h9 => h9) rfl dX5_lookUp_69 ?_
        refine lv_aload_n hx hb dX5_lookUp_72 rfl (lv_at hl 0 rfl) ?_
        refine va_get (D := D) (ci := 5) (v := .int M.2.2.2.2.2.2.2.2.2.1) (C := RX5) (T := TX5) (N := 19) hx hb hts hiRX5 hown hK hP 0 rfl rfl 9 (by decide) hf61 (fun _ h9 => h9) rfl dX5_lookUp_73 ?_
        refine lv_bipush (v := 6) hx hb dX5_lookUp_76 (by decide) ?_
        obtain ⟨x35, h36, h10⟩ := bd_s h10
        have K37 : W p l e rm_X5_lookUp s m args below meth c H locs 0 0 Q (F0 m 86 ls [.int x35, .int M.2.2.2.2.2.2.2.2.2.2.2.2.1, .ref (a 0)]) := by
          refine lv_iadd hx hb dX5_lookUp_86 ?_
          refine va_put (D := D) (ci := 5) (v := .int (M.2.2.2.2.2.2.2.2.2.2.2.2.1 + x35)) (ty := .int) (C := RX5) (T := TX5) (N := 19) hx hb hts hiRX5 tyX5 tyX5_ok nmX5 hown hK hP hD hS 0 rfl rfl 12 (by decide) hf109 (fun _ h9 => h9) rfl (by decide +kernel) rfl rfl (Nat.le_of_ble_eq_true rfl) dX5_lookUp_87 (fun H locs hP hD hS => ?_)
          have hP : va_P D vwCl (modelW k a (M.1, M.2.1, M.2.2.1, M.2.2.2.1, M.2.2.2.2.1, M.2.2.2.2.2.1, M.2.2.2.2.2.2.1, M.2.2.2.2.2.2.2.1, M.2.2.2.2.2.2.2.2.1, M.2.2.2.2.2.2.2.2.2.1, M.2.2.2.2.2.2.2.2.2.2.1, (M.2.2.2.2.2.2.2.2.2.2.2.1 + 1), (M.2.2.2.2.2.2.2.2.2.2.2.2.1 + x35), M.2.2.2.2.2.2.2.2.2.2.2.2.2)) H := hP
          have hD : va_D A0 (modelW k a (M.1, M.2.1, M.2.2.1, M.2.2.2.1, M.2.2.2.2.1, M.2.2.2.2.2.1, M.2.2.2.2.2.2.1, M.2.2.2.2.2.2.2.1, M.2.2.2.2.2.2.2.2.1, M.2.2.2.2.2.2.2.2.2.1, M.2.2.2.2.2.2.2.2.2.2.1, (M.2.2.2.2.2.2.2.2.2.2.2.1 + 1), (M.2.2.2.2.2.2.2.2.2.2.2.2.1 + x35), M.2.2.2.2.2.2.2.2.2.2.2.2.2)) := hD
          obtain rfl := Option.some.inj h10
          exact K11 ls H locs (lv_sub hl [0, 1, 2] rfl) hP hD hS
        refine lv_icmp_ne (tgt := 85) hx hb dX5_lookUp_78 (by decide) (fun c38 => ?_) (fun c38 => ?_)
        · have h36 := if_f h36 c38
          refine lv_iconst (v := 0) hx hb dX5_lookUp_85 (by decide) ?_
          obtain rfl := Option.some.inj h36
          exact K37
        · have h36 := if_t h36 c38
          refine lv_iconst (v := 1) hx hb dX5_lookUp_81 (by decide) ?_
          refine lv_goto (tgt := 86) hx hb dX5_lookUp_82 (by decide) ?_
          obtain rfl := Option.some.inj h36
          exact K37
      · have h10 := if_f h10 c34
        refine lv_aload_n hx hb dX5_lookUp_44 rfl (lv_at hl 0 rfl) ?_
        refine lv_dup hx hb dX5_lookUp_45 rfl ?_
        refine va_get (D := D) (ci := 5) (v := .int M.2.2.2.2.2.2.2.2.2.2.1) (C := RX5) (T := TX5) (N := 19) hx hb hts hiRX5 hown hK hP 0 rfl rfl 10 (by decide) hf103 (fun _ h9 => h9) rfl dX5_lookUp_46 ?_
        refine lv_iconst (v := 1) hx hb dX5_lookUp_49 (by decide) ?_
        refine lv_iadd hx hb dX5_lookUp_50 ?_
        refine va_put (D := D) (ci := 5) (v := .int (M.2.2.2.2.2.2.2.2.2.2.1 + 1)) (ty := .int) (C := RX5) (T := TX5) (N := 19) hx hb hts hiRX5 tyX5 tyX5_ok nmX5 hown hK hP hD hS 0 rfl rfl 10 (by decide) hf103 (fun _ h9 => h9) rfl (by decide +kernel) rfl rfl (Nat.le_of_ble_eq_true rfl) dX5_lookUp_51 (fun H locs hP hD hS => ?_)
        have hP : va_P D vwCl (modelW k a (M.1, M.2.1, M.2.2.1, M.2.2.2.1, M.2.2.2.2.1, M.2.2.2.2.2.1, M.2.2.2.2.2.2.1, M.2.2.2.2.2.2.2.1, M.2.2.2.2.2.2.2.2.1, M.2.2.2.2.2.2.2.2.2.1, (M.2.2.2.2.2.2.2.2.2.2.1 + 1), M.2.2.2.2.2.2.2.2.2.2.2)) H := hP
        have hD : va_D A0 (modelW k a (M.1, M.2.1, M.2.2.1, M.2.2.2.1, M.2.2.2.2.1, M.2.2.2.2.2.1, M.2.2.2.2.2.2.1, M.2.2.2.2.2.2.2.1, M.2.2.2.2.2.2.2.2.1, M.2.2.2.2.2.2.2.2.2.1, (M.2.2.2.2.2.2.2.2.2.2.1 + 1), M.2.2.2.2.2.2.2.2.2.2.2)) := hD
        refine lv_goto (tgt := 90) hx hb dX5_lookUp_54 (by decide) ?_
        obtain rfl := Option.some.inj h10
        exact K11 ls H locs (lv_sub hl [0, 1, 2] rfl) hP hD hS
    · have h := if_t h c8
      obtain rfl := Option.some.inj h
      exact hQ _ _ _ _ dX5_lookUp_39 hP hS
  refine lp_W (P := fun z3 => ∀ (ls : Array Slot), lv_has ls 5 [(0, .ref (a 0)), (1, .int y1), (2, .int z3.1), (3, .int z3.2)] → W p l e rm_X5_lookUp s m args below meth c s.heap [] 0 0 Q (F0 m 5 ls [])) (E := fun x1 => ∀ (ls : Array Slot), lv_has ls 5 [(0, .ref (a 0)), (1, .int y1), (2, .int x1)] → W p l e rm_X5_lookUp s m args below meth c s.heap [] 0 0 Q (F0 m 35 ls [])) (fun z3 xx5 hB4 kI6 kE7 => ?_) _ _ _ h2 K45 ls (lv_sub hl [2, 3, 1, 0] rfl)
  intro ls hl
  unfold f_X5_lookUp_L5 at hB4
  refine lv_iload_n hx hb dX5_lookUp_5 rfl (lv_at hl 3 rfl) ?_
  refine lv_aload_n hx hb dX5_lookUp_6 rfl (lv_at hl 0 rfl) ?_
  refine va_get (D := D) (ci := 5) (v := .int M.2.2.2.2.2.2.2.2.2.1) (C := RX5) (T := TX5) (N := 19) hx hb hts hiRX5 hown hK hP 0 rfl rfl 9 (by decide) hf61 (fun _ h9 => h9) rfl dX5_lookUp_7 ?_
  refine lv_icmp_ge (tgt := 35) hx hb dX5_lookUp_10 (by decide) (fun c39 => ?_) (fun c39 => ?_)
  · have hB4 := if_t hB4 c39
    exact kE7 _ (Option.some.inj hB4).symm ls (lv_sub hl [0, 1, 2] rfl)
  · have hB4 := if_f hB4 c39
    refine lv_aload_n hx hb dX5_lookUp_13 rfl (lv_at hl 0 rfl) ?_
    refine va_get (D := D) (ci := 5) (v := .ref (a 8)) (C := RX5) (T := TX5) (N := 19) hx hb hts hiRX5 hown hK hP 0 rfl rfl 8 (by decide) hf32 (fun _ h9 => h9) rfl dX5_lookUp_14 ?_
    refine lv_iload_n hx hb dX5_lookUp_17 rfl (lv_at hl 3 rfl) ?_
    obtain ⟨c40, hB4⟩ := gd_s hB4
    refine va_iald (D := D) hx hb hK hP 8 0 rfl rfl (ix_in c40) dX5_lookUp_18 ?_
    refine lv_iload_n hx hb dX5_lookUp_19 rfl (lv_at hl 1 rfl) ?_
    obtain ⟨x41, h42, hB4⟩ := bd_s hB4
    have K43 : W p l e rm_X5_lookUp s m args below meth c s.heap [] 0 0 Q (F0 m 28 ls [.int x41]) := by
      refine lv_istore_n (lv' := [(2, .int x41), (0, .ref (a 0)), (1, .int y1), (3, .int z3.2)]) hx hb dX5_lookUp_28 rfl hl (by decide) rfl (fun ls hl => ?_)
      refine lv_iinc (v := (z3.2 + 1)) (lv' := [(3, .int (z3.2 + 1)), (2, .int x41), (0, .ref (a 0)), (1, .int y1)]) hx hb dX5_lookUp_29 hl (k := 3) rfl rfl (by decide) rfl (fun ls hl => ?_)
      refine lv_goto (tgt := 5) hx hb dX5_lookUp_32 (by decide) ?_
      exact kI6 _ (Option.some.inj hB4).symm ls (lv_sub hl [2, 3, 1, 0] rfl)
    refine lv_icmp_ne (tgt := 27) hx hb dX5_lookUp_20 (by decide) (fun c44 => ?_) (fun c44 => ?_)
    · have h42 := if_f h42 c44
      refine lv_iload_n hx hb dX5_lookUp_27 rfl (lv_at hl 2 rfl) ?_
      obtain rfl := Option.some.inj h42
      exact K43
    · have h42 := if_t h42 c44
      refine lv_iload_n hx hb dX5_lookUp_23 rfl (lv_at hl 3 rfl) ?_
      refine lv_goto (tgt := 28) hx hb dX5_lookUp_24 (by decide) ?_
      obtain rfl := Option.some.inj h42
      exact K43

abbrev rm_X5_size : Room := { frames := 3, cells := 0, slots := 0, locals := 70 }
def f_X5_size_L5 (M : ModelV) (y1 : Int32) (y2 : Int32) (z : Int32 × Int32) : Option ((Int32 × Int32) ⊕ (Int32)) := if 256 ≤ z.2 then (some (.inr z.1)) else ((f_X5_isPlot M (z.2 - z.2 / 16 * 16) (z.2 / 16)).bind (fun x2 => (if (b2i x2) = 0 then (some 0) else ((f_X5_ownerOf M y1 (z.2 - z.2 / 16 * 16) (z.2 / 16)).bind (fun x8 => if x8 = y2 then (some 1) else (some 0))) : Option (Int32)).bind (fun x4 => some (.inl ((z.1 + x4), (z.2 + 1))))))
def f_X5_size (M : ModelV) (y1 : Int32) (y2 : Int32) : Option (Int32) := (lp (f_X5_size_L5 M y1 y2) fu (0, 0)).bind (fun x1 => some x1)
set_option maxHeartbeats 4000000 in
set_option maxRecDepth 100000 in
theorem c_X5_size (l : Launch) (D : va_G) (k : Nat → ClassId) (a : Nat → Nat) (M : ModelV) (y1 : Int32) (y2 : Int32) (r : Int32) (h : f_X5_size M y1 y2 = some r) : Met l yX5_size wsX5_size rm_X5_size (va_Pc [.ref (a 0), .int y1, .int y2] (RB D k (modelW k a M))) (QR (some (.int r))) 0 0 (fun _ => False) := by
  refine met_Ri (by decide) rfl (Nat.le_of_ble_eq_true rfl) ?_
  intro p e s m below meth c Q args ls hx hb hml hown hts hP hK hN hl hQ
  have hl : lv_has ls 5 [(0, .ref (a 0)), (1, .int y1), (2, .int y2)] := hl
  have hown : s.vm.findClass RX5 = some m.cls := hown
  unfold f_X5_size at h
  refine lv_iconst (v := 0) hx hb dX5_size_0 (by decide) ?_
  refine lv_istore_n (lv' := [(3, .int 0), (0, .ref (a 0)), (1, .int y1), (2, .int y2)]) hx hb dX5_size_1 rfl hl (by decide) rfl (fun ls hl => ?_)
  refine lv_iconst (v := 0) hx hb dX5_size_2 (by decide) ?_
  refine lv_istore (lv' := [(4, .int 0), (3, .int 0), (0, .ref (a 0)), (1, .int y1), (2, .int y2)]) hx hb dX5_size_3 hl (by decide) rfl (fun ls hl => ?_)
  obtain ⟨x1, h2, h⟩ := bd_s h
  have K18 : ∀ (ls : Array Slot), lv_has ls 5 [(3, .int x1)] → W p l e rm_X5_size s m args below meth c s.heap [] 0 0 Q (F0 m 63 ls []) := by
    intro ls hl
    refine lv_iload_n hx hb dX5_size_63 rfl (lv_at hl 0 rfl) ?_
    obtain rfl := Option.some.inj h
    exact hQ _ _ dX5_size_64
  refine lp_W (P := fun z3 => ∀ (ls : Array Slot), lv_has ls 5 [(0, .ref (a 0)), (1, .int y1), (2, .int y2), (3, .int z3.1), (4, .int z3.2)] → W p l e rm_X5_size s m args below meth c s.heap [] 0 0 Q (F0 m 5 ls [])) (E := fun x1 => ∀ (ls : Array Slot), lv_has ls 5 [(3, .int x1)] → W p l e rm_X5_size s m args below meth c s.heap [] 0 0 Q (F0 m 63 ls [])) (fun z3 xx5 hB4 kI6 kE7 => ?_) _ _ _ h2 K18 ls (lv_sub hl [2, 3, 4, 1, 0] rfl)
  intro ls hl
  unfold f_X5_size_L5 at hB4
  refine lv_iload hx hb dX5_size_5 (lv_at hl 4 rfl) ?_
  refine lv_sipush (v := 256) hx hb dX5_size_7 (by decide) ?_
  refine lv_icmp_ge (tgt := 63) hx hb dX5_size_10 (by decide) (fun c8 => ?_) (fun c8 => ?_)
  · have hB4 := if_t hB4 c8
    exact kE7 _ (Option.some.inj hB4).symm ls (lv_sub hl [3] rfl)
  · have hB4 := if_f hB4 c8
    refine lv_iload_n hx hb dX5_size_13 rfl (lv_at hl 3 rfl) ?_
    refine lv_aload_n hx hb dX5_size_14 rfl (lv_at hl 0 rfl) ?_
    refine lv_iload hx hb dX5_size_15 (lv_at hl 4 rfl) ?_
    refine lv_bipush (v := 16) hx hb dX5_size_17 (by decide) ?_
    refine lv_irem hx hb dX5_size_19 (by decide) ?_
    refine lv_iload hx hb dX5_size_20 (lv_at hl 4 rfl) ?_
    refine lv_bipush (v := 16) hx hb dX5_size_22 (by decide) ?_
    refine lv_idiv hx hb dX5_size_24 (by decide) ?_
    obtain ⟨x9, h10, hB4⟩ := bd_s hB4
    refine cR_V (As := [.int (z3.2 - z3.2 / 16 * 16), .int (z3.2 / 16)]) (rest := [.int z3.1]) (n := 2) (v := .int (b2i x9)) hx hb hml hown hts hK hN hl.1 (c_X5_isPlot l D k a M (z3.2 - z3.2 / 16 * 16) (z3.2 / 16) x9 h10) gX5_size_X5_isPlot rfl (by decide +kernel) ⟨⟨rfl, rfl⟩, by decide, by decide⟩ hP 0 5 rfl rfl rfl rfl rfl (Nat.le_of_ble_eq_true rfl) dX5_size_25 ⟨Nat.zero_le _, Nat.zero_le _⟩ ?_
    obtain ⟨x11, h12, hB4⟩ := bd_s hB4
    have K13 : W p l e rm_X5_size s m args below meth c s.heap [] 0 0 Q (F0 m 55 ls [.int x11, .int z3.1]) := by
      refine lv_iadd hx hb dX5_size_55 ?_
      refine lv_istore_n (lv' := [(3, .int (z3.1 + x11)), (0, .ref (a 0)), (1, .int y1), (2, .int y2), (4, .int z3.2)]) hx hb dX5_size_56 rfl hl (by decide) rfl (fun ls hl => ?_)
      refine lv_iinc (v := (z3.2 + 1)) (lv' := [(4, .int (z3.2 + 1)), (3, .int (z3.1 + x11)), (0, .ref (a 0)), (1, .int y1), (2, .int y2)]) hx hb dX5_size_57 hl (k := 4) rfl rfl (by decide) rfl (fun ls hl => ?_)
      refine lv_goto (tgt := 5) hx hb dX5_size_60 (by decide) ?_
      exact kI6 _ (Option.some.inj hB4).symm ls (lv_sub hl [2, 3, 4, 1, 0] rfl)
    refine lv_if_eq (tgt := 54) hx hb dX5_size_28 (by decide) (fun c14 => ?_) (fun c14 => ?_)
    · have h12 := if_t h12 c14
      refine lv_iconst (v := 0) hx hb dX5_size_54 (by decide) ?_
      obtain rfl := Option.some.inj h12
      exact K13
    · have h12 := if_f h12 c14
      refine lv_aload_n hx hb dX5_size_31 rfl (lv_at hl 0 rfl) ?_
      refine lv_iload_n hx hb dX5_size_32 rfl (lv_at hl 1 rfl) ?_
      refine lv_iload hx hb dX5_size_33 (lv_at hl 4 rfl) ?_
      refine lv_bipush (v := 16) hx hb dX5_size_35 (by decide) ?_
      refine lv_irem hx hb dX5_size_37 (by decide) ?_
      refine lv_iload hx hb dX5_size_38 (lv_at hl 4 rfl) ?_
      refine lv_bipush (v := 16) hx hb dX5_size_40 (by decide) ?_
      refine lv_idiv hx hb dX5_size_42 (by decide) ?_
      obtain ⟨x15, h16, h12⟩ := bd_s h12
      refine cR_V (As := [.int y1, .int (z3.2 - z3.2 / 16 * 16), .int (z3.2 / 16)]) (rest := [.int z3.1]) (n := 3) (v := .int x15) hx hb hml hown hts hK hN hl.1 (c_X5_ownerOf l D k a M y1 (z3.2 - z3.2 / 16 * 16) (z3.2 / 16) x15 h16) gX5_size_X5_ownerOf rfl (by decide +kernel) ⟨⟨rfl, rfl⟩, by decide, by decide⟩ hP 0 5 rfl rfl rfl rfl rfl (Nat.le_of_ble_eq_true rfl) dX5_size_43 ⟨Nat.zero_le _, Nat.zero_le _⟩ ?_
      refine lv_iload_n hx hb dX5_size_46 rfl (lv_at hl 2 rfl) ?_
      refine lv_icmp_ne (tgt := 54) hx hb dX5_size_47 (by decide) (fun c17 => ?_) (fun c17 => ?_)
      · have h12 := if_f h12 c17
        refine lv_iconst (v := 0) hx hb dX5_size_54 (by decide) ?_
        obtain rfl := Option.some.inj h12
        exact K13
      · have h12 := if_t h12 c17
        refine lv_iconst (v := 1) hx hb dX5_size_50 (by decide) ?_
        refine lv_goto (tgt := 55) hx hb dX5_size_51 (by decide) ?_
        obtain rfl := Option.some.inj h12
        exact K13

abbrev rm_X5_farOf : Room := { frames := 3, cells := 0, slots := 0, locals := 70 }
def f_X5_farOf_L5 (M : ModelV) (y1 : Int32) (y2 : Int32) (z : Int32 × Int32) : Option ((Int32 × Int32) ⊕ (Int32)) := if 256 ≤ z.2 then (some (.inr z.1)) else ((f_X5_isPlot M (z.2 - z.2 / 16 * 16) (z.2 / 16)).bind (fun x2 => (if (b2i x2) = 0 then (some 0) else ((f_X5_ownerOf M y1 (z.2 - z.2 / 16 * 16) (z.2 / 16)).bind (fun x8 => if x8 = y2 then ((f_X5_far M y2 (z.2 - z.2 / 16 * 16) (z.2 / 16)).bind (fun x11 => some x11)) else (some 0))) : Option (Int32)).bind (fun x4 => some (.inl ((z.1 + x4), (z.2 + 1))))))
def f_X5_farOf (M : ModelV) (y1 : Int32) (y2 : Int32) : Option (Int32) := (lp (f_X5_farOf_L5 M y1 y2) fu (0, 0)).bind (fun x1 => some x1)
set_option maxHeartbeats 4000000 in
set_option maxRecDepth 100000 in
theorem c_X5_farOf (l : Launch) (D : va_G) (k : Nat → ClassId) (a : Nat → Nat) (M : ModelV) (y1 : Int32) (y2 : Int32) (r : Int32) (h : f_X5_farOf M y1 y2 = some r) : Met l yX5_farOf wsX5_farOf rm_X5_farOf (va_Pc [.ref (a 0), .int y1, .int y2] (RB D k (modelW k a M))) (QR (some (.int r))) 0 0 (fun _ => False) := by
  refine met_Ri (by decide) rfl (Nat.le_of_ble_eq_true rfl) ?_
  intro p e s m below meth c Q args ls hx hb hml hown hts hP hK hN hl hQ
  have hl : lv_has ls 5 [(0, .ref (a 0)), (1, .int y1), (2, .int y2)] := hl
  have hown : s.vm.findClass RX5 = some m.cls := hown
  unfold f_X5_farOf at h
  refine lv_iconst (v := 0) hx hb dX5_farOf_0 (by decide) ?_
  refine lv_istore_n (lv' := [(3, .int 0), (0, .ref (a 0)), (1, .int y1), (2, .int y2)]) hx hb dX5_farOf_1 rfl hl (by decide) rfl (fun ls hl => ?_)
  refine lv_iconst (v := 0) hx hb dX5_farOf_2 (by decide) ?_
  refine lv_istore (lv' := [(4, .int 0), (3, .int 0), (0, .ref (a 0)), (1, .int y1), (2, .int y2)]) hx hb dX5_farOf_3 hl (by decide) rfl (fun ls hl => ?_)
  obtain ⟨x1, h2, h⟩ := bd_s h
  have K20 : ∀ (ls : Array Slot), lv_has ls 5 [(3, .int x1)] → W p l e rm_X5_farOf s m args below meth c s.heap [] 0 0 Q (F0 m 77 ls []) := by
    intro ls hl
    refine lv_iload_n hx hb dX5_farOf_77 rfl (lv_at hl 0 rfl) ?_
    obtain rfl := Option.some.inj h
    exact hQ _ _ dX5_farOf_78
  refine lp_W (P := fun z3 => ∀ (ls : Array Slot), lv_has ls 5 [(0, .ref (a 0)), (1, .int y1), (2, .int y2), (3, .int z3.1), (4, .int z3.2)] → W p l e rm_X5_farOf s m args below meth c s.heap [] 0 0 Q (F0 m 5 ls [])) (E := fun x1 => ∀ (ls : Array Slot), lv_has ls 5 [(3, .int x1)] → W p l e rm_X5_farOf s m args below meth c s.heap [] 0 0 Q (F0 m 77 ls [])) (fun z3 xx5 hB4 kI6 kE7 => ?_) _ _ _ h2 K20 ls (lv_sub hl [2, 3, 4, 1, 0] rfl)
  intro ls hl
  unfold f_X5_farOf_L5 at hB4
  refine lv_iload hx hb dX5_farOf_5 (lv_at hl 4 rfl) ?_
  refine lv_sipush (v := 256) hx hb dX5_farOf_7 (by decide) ?_
  refine lv_icmp_ge (tgt := 77) hx hb dX5_farOf_10 (by decide) (fun c8 => ?_) (fun c8 => ?_)
  · have hB4 := if_t hB4 c8
    exact kE7 _ (Option.some.inj hB4).symm ls (lv_sub hl [3] rfl)
  · have hB4 := if_f hB4 c8
    refine lv_iload_n hx hb dX5_farOf_13 rfl (lv_at hl 3 rfl) ?_
    refine lv_aload_n hx hb dX5_farOf_14 rfl (lv_at hl 0 rfl) ?_
    refine lv_iload hx hb dX5_farOf_15 (lv_at hl 4 rfl) ?_
    refine lv_bipush (v := 16) hx hb dX5_farOf_17 (by decide) ?_
    refine lv_irem hx hb dX5_farOf_19 (by decide) ?_
    refine lv_iload hx hb dX5_farOf_20 (lv_at hl 4 rfl) ?_
    refine lv_bipush (v := 16) hx hb dX5_farOf_22 (by decide) ?_
    refine lv_idiv hx hb dX5_farOf_24 (by decide) ?_
    obtain ⟨x9, h10, hB4⟩ := bd_s hB4
    refine cR_V (As := [.int (z3.2 - z3.2 / 16 * 16), .int (z3.2 / 16)]) (rest := [.int z3.1]) (n := 2) (v := .int (b2i x9)) hx hb hml hown hts hK hN hl.1 (c_X5_isPlot l D k a M (z3.2 - z3.2 / 16 * 16) (z3.2 / 16) x9 h10) gX5_farOf_X5_isPlot rfl (by decide +kernel) ⟨⟨rfl, rfl⟩, by decide, by decide⟩ hP 0 5 rfl rfl rfl rfl rfl (Nat.le_of_ble_eq_true rfl) dX5_farOf_25 ⟨Nat.zero_le _, Nat.zero_le _⟩ ?_
    obtain ⟨x11, h12, hB4⟩ := bd_s hB4
    have K13 : W p l e rm_X5_farOf s m args below meth c s.heap [] 0 0 Q (F0 m 69 ls [.int x11, .int z3.1]) := by
      refine lv_iadd hx hb dX5_farOf_69 ?_
      refine lv_istore_n (lv' := [(3, .int (z3.1 + x11)), (0, .ref (a 0)), (1, .int y1), (2, .int y2), (4, .int z3.2)]) hx hb dX5_farOf_70 rfl hl (by decide) rfl (fun ls hl => ?_)
      refine lv_iinc (v := (z3.2 + 1)) (lv' := [(4, .int (z3.2 + 1)), (3, .int (z3.1 + x11)), (0, .ref (a 0)), (1, .int y1), (2, .int y2)]) hx hb dX5_farOf_71 hl (k := 4) rfl rfl (by decide) rfl (fun ls hl => ?_)
      refine lv_goto (tgt := 5) hx hb dX5_farOf_74 (by decide) ?_
      exact kI6 _ (Option.some.inj hB4).symm ls (lv_sub hl [2, 3, 4, 1, 0] rfl)
    refine lv_if_eq (tgt := 68) hx hb dX5_farOf_28 (by decide) (fun c14 => ?_) (fun c14 => ?_)
    · have h12 := if_t h12 c14
      refine lv_iconst (v := 0) hx hb dX5_farOf_68 (by decide) ?_
      obtain rfl := Option.some.inj h12
      exact K13
    · have h12 := if_f h12 c14
      refine lv_aload_n hx hb dX5_farOf_31 rfl (lv_at hl 0 rfl) ?_
      refine lv_iload_n hx hb dX5_farOf_32 rfl (lv_at hl 1 rfl) ?_
      refine lv_iload hx hb dX5_farOf_33 (lv_at hl 4 rfl) ?_
      refine lv_bipush (v := 16) hx hb dX5_farOf_35 (by decide) ?_
      refine lv_irem hx hb dX5_farOf_37 (by decide) ?_
      refine lv_iload hx hb dX5_farOf_38 (lv_at hl 4 rfl) ?_
      refine lv_bipush (v := 16) hx hb dX5_farOf_40 (by decide) ?_
      refine lv_idiv hx hb dX5_farOf_42 (by decide) ?_
      obtain ⟨x15, h16, h12⟩ := bd_s h12
      refine cR_V (As := [.int y1, .int (z3.2 - z3.2 / 16 * 16), .int (z3.2 / 16)]) (rest := [.int z3.1]) (n := 3) (v := .int x15) hx hb hml hown hts hK hN hl.1 (c_X5_ownerOf l D k a M y1 (z3.2 - z3.2 / 16 * 16) (z3.2 / 16) x15 h16) gX5_farOf_X5_ownerOf rfl (by decide +kernel) ⟨⟨rfl, rfl⟩, by decide, by decide⟩ hP 0 5 rfl rfl rfl rfl rfl (Nat.le_of_ble_eq_true rfl) dX5_farOf_43 ⟨Nat.zero_le _, Nat.zero_le _⟩ ?_
      refine lv_iload_n hx hb dX5_farOf_46 rfl (lv_at hl 2 rfl) ?_
      refine lv_icmp_ne (tgt := 68) hx hb dX5_farOf_47 (by decide) (fun c17 => ?_) (fun c17 => ?_)
      · have h12 := if_f h12 c17
        refine lv_iconst (v := 0) hx hb dX5_farOf_68 (by decide) ?_
        obtain rfl := Option.some.inj h12
        exact K13
      · have h12 := if_t h12 c17
        refine lv_aload_n hx hb dX5_farOf_50 rfl (lv_at hl 0 rfl) ?_
        refine lv_iload_n hx hb dX5_farOf_51 rfl (lv_at hl 2 rfl) ?_
        refine lv_iload hx hb dX5_farOf_52 (lv_at hl 4 rfl) ?_
        refine lv_bipush (v := 16) hx hb dX5_farOf_54 (by decide) ?_
        refine lv_irem hx hb dX5_farOf_56 (by decide) ?_
        refine lv_iload hx hb dX5_farOf_57 (lv_at hl 4 rfl) ?_
        refine lv_bipush (v := 16) hx hb dX5_farOf_59 (by decide) ?_
        refine lv_idiv hx hb dX5_farOf_61 (by decide) ?_
        obtain ⟨x18, h19, h12⟩ := bd_s h12
        refine cR_V (As := [.int y2, .int (z3.2 - z3.2 / 16 * 16), .int (z3.2 / 16)]) (rest := [.int z3.1]) (n := 3) (v := .int x18) hx hb hml hown hts hK hN hl.1 (c_X5_far l D k a M y2 (z3.2 - z3.2 / 16 * 16) (z3.2 / 16) x18 h19) gX5_farOf_X5_far rfl (by decide +kernel) ⟨⟨rfl, rfl⟩, by decide, by decide⟩ hP 0 5 rfl rfl rfl rfl rfl (Nat.le_of_ble_eq_true rfl) dX5_farOf_62 ⟨Nat.zero_le _, Nat.zero_le _⟩ ?_
        refine lv_goto (tgt := 69) hx hb dX5_farOf_65 (by decide) ?_
        obtain rfl := Option.some.inj h12
        exact K13

abbrev rm_X5_at : Room := { frames := 3, cells := 0, slots := 0, locals := 70 }
def f_X5_at (M : ModelV) (y1 : Int32) (y2 : Int32) (y3 : Int32) : Option (Int32) := (f_X5_in y2 0 15).bind (fun x1 => if (b2i x1) = 0 then (some (-6)) else ((f_X5_isPlot M y2 y3).bind (fun x4 => if (b2i x4) = 0 then (some (-6)) else ((f_X5_ownerOf M y1 y2 y3).bind (fun x7 => some x7)))))
set_option maxHeartbeats 4000000 in
set_option maxRecDepth 100000 in
theorem c_X5_at (l : Launch) (D : va_G) (k : Nat → ClassId) (a : Nat → Nat) (M : ModelV) (y1 : Int32) (y2 : Int32) (y3 : Int32) (r : Int32) (h : f_X5_at M y1 y2 y3 = some r) : Met l yX5_at wsX5_at rm_X5_at (va_Pc [.ref (a 0), .int y1, .int y2, .int y3] (RB D k (modelW k a M))) (QR (some (.int r))) 0 0 (fun _ => False) := by
  refine met_Ri (by decide) rfl (Nat.le_of_ble_eq_true rfl) ?_
  intro p e s m below meth c Q args ls hx hb hml hown hts hP hK hN hl hQ
  have hl : lv_has ls 4 [(0, .ref (a 0)), (1, .int y1), (2, .int y2), (3, .int y3)] := hl
  have hown : s.vm.findClass RX5 = some m.cls := hown
  unfold f_X5_at at h
  refine lv_iload_n hx hb dX5_at_0 rfl (lv_at hl 2 rfl) ?_
  refine lv_iconst (v := 0) hx hb dX5_at_1 (by decide) ?_
  refine lv_bipush (v := 15) hx hb dX5_at_2 (by decide) ?_
  obtain ⟨x1, h2, h⟩ := bd_s h
  refine cR_S (As := [.int y2, .int 0, .int 15]) (rest := []) (n := 3) (v := .int (b2i x1)) hx hb hml hown hts hK hN hl.1 (c_X5_in l D k y2 0 15 x1 h2) gX5_at_X5_in rfl (by decide +kernel) ⟨⟨rfl, rfl⟩, by decide, by decide⟩ va_P_nil rfl rfl (Nat.le_of_ble_eq_true rfl) dX5_at_4 ⟨Nat.zero_le _, Nat.zero_le _⟩ ?_
  refine lv_if_eq (tgt := 29) hx hb dX5_at_7 (by decide) (fun c3 => ?_) (fun c3 => ?_)
  · have h := if_t h c3
    refine lv_bipush (v := (-6)) hx hb dX5_at_29 (by decide) ?_
    obtain rfl := Option.some.inj h
    exact hQ _ _ dX5_at_31
  · have h := if_f h c3
    refine lv_aload_n hx hb dX5_at_10 rfl (lv_at hl 0 rfl) ?_
    refine lv_iload_n hx hb dX5_at_11 rfl (lv_at hl 2 rfl) ?_
    refine lv_iload_n hx hb dX5_at_12 rfl (lv_at hl 3 rfl) ?_
    obtain ⟨x4, h5, h⟩ := bd_s h
    refine cR_V (As := [.int y2, .int y3]) (rest := []) (n := 2) (v := .int (b2i x4)) hx hb hml hown hts hK hN hl.1 (c_X5_isPlot l D k a M y2 y3 x4 h5) gX5_at_X5_isPlot rfl (by decide +kernel) ⟨⟨rfl, rfl⟩, by decide, by decide⟩ hP 0 5 rfl rfl rfl rfl rfl (Nat.le_of_ble_eq_true rfl) dX5_at_13 ⟨Nat.zero_le _, Nat.zero_le _⟩ ?_
    refine lv_if_eq (tgt := 29) hx hb dX5_at_16 (by decide) (fun c6 => ?_) (fun c6 => ?_)
    · have h := if_t h c6
      refine lv_bipush (v := (-6)) hx hb dX5_at_29 (by decide) ?_
      obtain rfl := Option.some.inj h
      exact hQ _ _ dX5_at_31
    · have h := if_f h c6
      refine lv_aload_n hx hb dX5_at_19 rfl (lv_at hl 0 rfl) ?_
      refine lv_iload_n hx hb dX5_at_20 rfl (lv_at hl 1 rfl) ?_
      refine lv_iload_n hx hb dX5_at_21 rfl (lv_at hl 2 rfl) ?_
      refine lv_iload_n hx hb dX5_at_22 rfl (lv_at hl 3 rfl) ?_
      obtain ⟨x7, h8, h⟩ := bd_s h
      refine cR_V (As := [.int y1, .int y2, .int y3]) (rest := []) (n := 3) (v := .int x7) hx hb hml hown hts hK hN hl.1 (c_X5_ownerOf l D k a M y1 y2 y3 x7 h8) gX5_at_X5_ownerOf rfl (by decide +kernel) ⟨⟨rfl, rfl⟩, by decide, by decide⟩ hP 0 5 rfl rfl rfl rfl rfl (Nat.le_of_ble_eq_true rfl) dX5_at_23 ⟨Nat.zero_le _, Nat.zero_le _⟩ ?_
      refine lv_goto (tgt := 31) hx hb dX5_at_26 (by decide) ?_
      obtain rfl := Option.some.inj h
      exact hQ _ _ dX5_at_31

abbrev rm_X5_touching : Room := { frames := 4, cells := 0, slots := 0, locals := 93 }
def f_X5_touching (M : ModelV) (y1 : Int32) (y2 : Int32) (y3 : Int32) (y4 : Int32) : Option (Int32) := (f_X5_at M y1 (y2 - 1) y3).bind (fun x1 => (if x1 = y4 then (some 1) else (some 0) : Option (Int32)).bind (fun x3 => (f_X5_at M y1 (y2 + 1) y3).bind (fun x6 => (if x6 = y4 then (some 1) else (some 0) : Option (Int32)).bind (fun x8 => (f_X5_at M y1 y2 (y3 - 1)).bind (fun x11 => (if x11 = y4 then (some 1) else (some 0) : Option (Int32)).bind (fun x13 => (f_X5_at M y1 y2 (y3 + 1)).bind (fun x16 => (if x16 = y4 then (some 1) else (some 0) : Option (Int32)).bind (fun x18 => some (((x3 + x8) + x13) + x18)))))))))
set_option maxHeartbeats 4000000 in
set_option maxRecDepth 100000 in
theorem c_X5_touching (l : Launch) (D : va_G) (k : Nat → ClassId) (a : Nat → Nat) (M : ModelV) (y1 : Int32) (y2 : Int32) (y3 : Int32) (y4 : Int32) (r : Int32) (h : f_X5_touching M y1 y2 y3 y4 = some r) : Met l yX5_touching wsX5_touching rm_X5_touching (va_Pc [.ref (a 0), .int y1, .int y2, .int y3, .int y4] (RB D k (modelW k a M))) (QR (some (.int r))) 0 0 (fun _ => False) := by
  refine met_Ri (by decide) rfl (Nat.le_of_ble_eq_true rfl) ?_
  intro p e s m below meth c Q args ls hx hb hml hown hts hP hK hN hl hQ
  have hl : lv_has ls 5 [(0, .ref (a 0)), (1, .int y1), (2, .int y2), (3, .int y3), (4, .int y4)] := hl
  have hown : s.vm.findClass RX5 = some m.cls := hown
  unfold f_X5_touching at h
  refine lv_aload_n hx hb dX5_touching_0 rfl (lv_at hl 0 rfl) ?_
  refine lv_iload_n hx hb dX5_touching_1 rfl (lv_at hl 1 rfl) ?_
  refine lv_iload_n hx hb dX5_touching_2 rfl (lv_at hl 2 rfl) ?_
  refine lv_iconst (v := 1) hx hb dX5_touching_3 (by decide) ?_
  refine lv_isub hx hb dX5_touching_4 ?_
  refine lv_iload_n hx hb dX5_touching_5 rfl (lv_at hl 3 rfl) ?_
  obtain ⟨x1, h2, h⟩ := bd_s h
  refine cR_V (As := [.int y1, .int (y2 - 1), .int y3]) (rest := []) (n := 3) (v := .int x1) hx hb hml hown hts hK hN hl.1 (c_X5_at l D k a M y1 (y2 - 1) y3 x1 h2) gX5_touching_X5_at rfl (by decide +kernel) ⟨⟨rfl, rfl⟩, by decide, by decide⟩ hP 0 5 rfl rfl rfl rfl rfl (Nat.le_of_ble_eq_true rfl) dX5_touching_6 ⟨Nat.zero_le _, Nat.zero_le _⟩ ?_
  refine lv_iload hx hb dX5_touching_9 (lv_at hl 4 rfl) ?_
  obtain ⟨x3, h4, h⟩ := bd_s h
  have K5 : W p l e rm_X5_touching s m args below meth c s.heap [] 0 0 Q (F0 m 19 ls [.int x3]) := by
    refine lv_aload_n hx hb dX5_touching_19 rfl (lv_at hl 0 rfl) ?_
    refine lv_iload_n hx hb dX5_touching_20 rfl (lv_at hl 1 rfl) ?_
    refine lv_iload_n hx hb dX5_touching_21 rfl (lv_at hl 2 rfl) ?_
    refine lv_iconst (v := 1) hx hb dX5_touching_22 (by decide) ?_
    refine lv_iadd hx hb dX5_touching_23 ?_
    refine lv_iload_n hx hb dX5_touching_24 rfl (lv_at hl 3 rfl) ?_
    obtain ⟨x6, h7, h⟩ := bd_s h
    refine cR_V (As := [.int y1, .int (y2 + 1), .int y3]) (rest := [.int x3]) (n := 3) (v := .int x6) hx hb hml hown hts hK hN hl.1 (c_X5_at l D k a M y1 (y2 + 1) y3 x6 h7) gX5_touching_X5_at rfl (by decide +kernel) ⟨⟨rfl, rfl⟩, by decide, by decide⟩ hP 0 5 rfl rfl rfl rfl rfl (Nat.le_of_ble_eq_true rfl) dX5_touching_25 ⟨Nat.zero_le _, Nat.zero_le _⟩ ?_
    refine lv_iload hx hb dX5_touching_28 (lv_at hl 4 rfl) ?_
    obtain ⟨x8, h9, h⟩ := bd_s h
    have K10 : W p l e rm_X5_touching s m args below meth c s.heap [] 0 0 Q (F0 m 38 ls [.int x8, .int x3]) := by
      refine lv_iadd hx hb dX5_touching_38 ?_
      refine lv_aload_n hx hb dX5_touching_39 rfl (lv_at hl 0 rfl) ?_
      refine lv_iload_n hx hb dX5_touching_40 rfl (lv_at hl 1 rfl) ?_
      refine lv_iload_n hx hb dX5_touching_41 rfl (lv_at hl 2 rfl) ?_
      refine lv_iload_n hx hb dX5_touching_42 rfl (lv_at hl 3 rfl) ?_
      refine lv_iconst (v := 1) hx hb dX5_touching_43 (by decide) ?_
      refine lv_isub hx hb dX5_touching_44 ?_
      obtain ⟨x11, h12, h⟩ := bd_s h
      refine cR_V (As := [.int y1, .int y2, .int (y3 - 1)]) (rest := [.int (x3 + x8)]) (n := 3) (v := .int x11) hx hb hml hown hts hK hN hl.1 (c_X5_at l D k a M y1 y2 (y3 - 1) x11 h12) gX5_touching_X5_at rfl (by decide +kernel) ⟨⟨rfl, rfl⟩, by decide, by decide⟩ hP 0 5 rfl rfl rfl rfl rfl (Nat.le_of_ble_eq_true rfl) dX5_touching_45 ⟨Nat.zero_le _, Nat.zero_le _⟩ ?_
      refine lv_iload hx hb dX5_touching_48 (lv_at hl 4 rfl) ?_
      obtain ⟨x13, h14, h⟩ := bd_s h
      have K15 : W p l e rm_X5_touching s m args below meth c s.heap [] 0 0 Q (F0 m 58 ls [.int x13, .int (x3 + x8)]) := by
        refine lv_iadd hx hb dX5_touching_58 ?_
        refine lv_aload_n hx hb dX5_touching_59 rfl (lv_at hl 0 rfl) ?_
        refine lv_iload_n hx hb dX5_touching_60 rfl (lv_at hl 1 rfl) ?_
        refine lv_iload_n hx hb dX5_touching_61 rfl (lv_at hl 2 rfl) ?_
        refine lv_iload_n hx hb dX5_touching_62 rfl (lv_at hl 3 rfl) ?_
        refine lv_iconst (v := 1) hx hb dX5_touching_63 (by decide) ?_
        refine lv_iadd hx hb dX5_touching_64 ?_
        obtain ⟨x16, h17, h⟩ := bd_s h
        refine cR_V (As := [.int y1, .int y2, .int (y3 + 1)]) (rest := [.int ((x3 + x8) + x13)]) (n := 3) (v := .int x16) hx hb hml hown hts hK hN hl.1 (c_X5_at l D k a M y1 y2 (y3 + 1) x16 h17) gX5_touching_X5_at rfl (by decide +kernel) ⟨⟨rfl, rfl⟩, by decide, by decide⟩ hP 0 5 rfl rfl rfl rfl rfl (Nat.le_of_ble_eq_true rfl) dX5_touching_65 ⟨Nat.zero_le _, Nat.zero_le _⟩ ?_
        refine lv_iload hx hb dX5_touching_68 (lv_at hl 4 rfl) ?_
        obtain ⟨x18, h19, h⟩ := bd_s h
        have K20 : W p l e rm_X5_touching s m args below meth c s.heap [] 0 0 Q (F0 m 78 ls [.int x18, .int ((x3 + x8) + x13)]) := by
          refine lv_iadd hx hb dX5_touching_78 ?_
          obtain rfl := Option.some.inj h
          exact hQ _ _ dX5_touching_79
        refine lv_icmp_ne (tgt := 77) hx hb dX5_touching_70 (by decide) (fun c21 => ?_) (fun c21 => ?_)
        · have h19 := if_f h19 c21
          refine lv_iconst (v := 0) hx hb dX5_touching_77 (by decide) ?_
          obtain rfl := Option.some.inj h19
          exact K20
        · have h19 := if_t h19 c21
          refine lv_iconst (v := 1) hx hb dX5_touching_73 (by decide) ?_
          refine lv_goto (tgt := 78) hx hb dX5_touching_74 (by decide) ?_
          obtain rfl := Option.some.inj h19
          exact K20
      refine lv_icmp_ne (tgt := 57) hx hb dX5_touching_50 (by decide) (fun c22 => ?_) (fun c22 => ?_)
      · have h14 := if_f h14 c22
        refine lv_iconst (v := 0) hx hb dX5_touching_57 (by decide) ?_
        obtain rfl := Option.some.inj h14
        exact K15
      · have h14 := if_t h14 c22
        refine lv_iconst (v := 1) hx hb dX5_touching_53 (by decide) ?_
        refine lv_goto (tgt := 58) hx hb dX5_touching_54 (by decide) ?_
        obtain rfl := Option.some.inj h14
        exact K15
    refine lv_icmp_ne (tgt := 37) hx hb dX5_touching_30 (by decide) (fun c23 => ?_) (fun c23 => ?_)
    · have h9 := if_f h9 c23
      refine lv_iconst (v := 0) hx hb dX5_touching_37 (by decide) ?_
      obtain rfl := Option.some.inj h9
      exact K10
    · have h9 := if_t h9 c23
      refine lv_iconst (v := 1) hx hb dX5_touching_33 (by decide) ?_
      refine lv_goto (tgt := 38) hx hb dX5_touching_34 (by decide) ?_
      obtain rfl := Option.some.inj h9
      exact K10
  refine lv_icmp_ne (tgt := 18) hx hb dX5_touching_11 (by decide) (fun c24 => ?_) (fun c24 => ?_)
  · have h4 := if_f h4 c24
    refine lv_iconst (v := 0) hx hb dX5_touching_18 (by decide) ?_
    obtain rfl := Option.some.inj h4
    exact K5
  · have h4 := if_t h4 c24
    refine lv_iconst (v := 1) hx hb dX5_touching_14 (by decide) ?_
    refine lv_goto (tgt := 19) hx hb dX5_touching_15 (by decide) ?_
    obtain rfl := Option.some.inj h4
    exact K5

abbrev rm_X5_sides : Room := { frames := 5, cells := 0, slots := 0, locals := 117 }
def f_X5_sides_L6 (M : ModelV) (y1 : Int32) (y2 : Int32) (y3 : Int32) (z : Int32 × Int32) : Option ((Int32 × Int32) ⊕ (Int32)) := if 256 ≤ z.2 then (some (.inr z.1)) else ((f_X5_at M y1 (z.2 - z.2 / 16 * 16) (z.2 / 16)).bind (fun x2 => (if x2 = y2 then ((f_X5_touching M y1 (z.2 - z.2 / 16 * 16) (z.2 / 16) y3).bind (fun x8 => some x8)) else (some 0) : Option (Int32)).bind (fun x4 => some (.inl ((z.1 + x4), (z.2 + 1))))))
def f_X5_sides (M : ModelV) (y1 : Int32) (y2 : Int32) (y3 : Int32) : Option (Int32) := (lp (f_X5_sides_L6 M y1 y2 y3) fu (0, 0)).bind (fun x1 => some x1)
set_option maxHeartbeats 4000000 in
set_option maxRecDepth 100000 in
theorem c_X5_sides (l : Launch) (D : va_G) (k : Nat → ClassId) (a : Nat → Nat) (M : ModelV) (y1 : Int32) (y2 : Int32) (y3 : Int32) (r : Int32) (h : f_X5_sides M y1 y2 y3 = some r) : Met l yX5_sides wsX5_sides rm_X5_sides (va_Pc [.ref (a 0), .int y1, .int y2, .int y3] (RB D k (modelW k a M))) (QR (some (.int r))) 0 0 (fun _ => False) := by
  refine met_Ri (by decide) rfl (Nat.le_of_ble_eq_true rfl) ?_
  intro p e s m below meth c Q args ls hx hb hml hown hts hP hK hN hl hQ
  have hl : lv_has ls 6 [(0, .ref (a 0)), (1, .int y1), (2, .int y2), (3, .int y3)] := hl
  have hown : s.vm.findClass RX5 = some m.cls := hown
  unfold f_X5_sides at h
  refine lv_iconst (v := 0) hx hb dX5_sides_0 (by decide) ?_
  refine lv_istore (lv' := [(4, .int 0), (0, .ref (a 0)), (1, .int y1), (2, .int y2), (3, .int y3)]) hx hb dX5_sides_1 hl (by decide) rfl (fun ls hl => ?_)
  refine lv_iconst (v := 0) hx hb dX5_sides_3 (by decide) ?_
  refine lv_istore (lv' := [(5, .int 0), (4, .int 0), (0, .ref (a 0)), (1, .int y1), (2, .int y2), (3, .int y3)]) hx hb dX5_sides_4 hl (by decide) rfl (fun ls hl => ?_)
  obtain ⟨x1, h2, h⟩ := bd_s h
  have K17 : ∀ (ls : Array Slot), lv_has ls 6 [(4, .int x1)] → W p l e rm_X5_sides s m args below meth c s.heap [] 0 0 Q (F0 m 64 ls []) := by
    intro ls hl
    refine lv_iload hx hb dX5_sides_64 (lv_at hl 0 rfl) ?_
    obtain rfl := Option.some.inj h
    exact hQ _ _ dX5_sides_66
  refine lp_W (P := fun z3 => ∀ (ls : Array Slot), lv_has ls 6 [(0, .ref (a 0)), (1, .int y1), (2, .int y2), (3, .int y3), (4, .int z3.1), (5, .int z3.2)] → W p l e rm_X5_sides s m args below meth c s.heap [] 0 0 Q (F0 m 6 ls [])) (E := fun x1 => ∀ (ls : Array Slot), lv_has ls 6 [(4, .int x1)] → W p l e rm_X5_sides s m args below meth c s.heap [] 0 0 Q (F0 m 64 ls [])) (fun z3 xx5 hB4 kI6 kE7 => ?_) _ _ _ h2 K17 ls (lv_sub hl [2, 3, 4, 5, 1, 0] rfl)
  intro ls hl
  unfold f_X5_sides_L6 at hB4
  refine lv_iload hx hb dX5_sides_6 (lv_at hl 5 rfl) ?_
  refine lv_sipush (v := 256) hx hb dX5_sides_8 (by decide) ?_
  refine lv_icmp_ge (tgt := 64) hx hb dX5_sides_11 (by decide) (fun c8 => ?_) (fun c8 => ?_)
  · have hB4 := if_t hB4 c8
    exact kE7 _ (Option.some.inj hB4).symm ls (lv_sub hl [4] rfl)
  · have hB4 := if_f hB4 c8
    refine lv_iload hx hb dX5_sides_14 (lv_at hl 4 rfl) ?_
    refine lv_aload_n hx hb dX5_sides_16 rfl (lv_at hl 0 rfl) ?_
    refine lv_iload_n hx hb dX5_sides_17 rfl (lv_at hl 1 rfl) ?_
    refine lv_iload hx hb dX5_sides_18 (lv_at hl 5 rfl) ?_
    refine lv_bipush (v := 16) hx hb dX5_sides_20 (by decide) ?_
    refine lv_irem hx hb dX5_sides_22 (by decide) ?_
    refine lv_iload hx hb dX5_sides_23 (lv_at hl 5 rfl) ?_
    refine lv_bipush (v := 16) hx hb dX5_sides_25 (by decide) ?_
    refine lv_idiv hx hb dX5_sides_27 (by decide) ?_
    obtain ⟨x9, h10, hB4⟩ := bd_s hB4
    refine cR_V (As := [.int y1, .int (z3.2 - z3.2 / 16 * 16), .int (z3.2 / 16)]) (rest := [.int z3.1]) (n := 3) (v := .int x9) hx hb hml hown hts hK hN hl.1 (c_X5_at l D k a M y1 (z3.2 - z3.2 / 16 * 16) (z3.2 / 16) x9 h10) gX5_sides_X5_at rfl (by decide +kernel) ⟨⟨rfl, rfl⟩, by decide, by decide⟩ hP 0 5 rfl rfl rfl rfl rfl (Nat.le_of_ble_eq_true rfl) dX5_sides_28 ⟨Nat.zero_le _, Nat.zero_le _⟩ ?_
    refine lv_iload_n hx hb dX5_sides_31 rfl (lv_at hl 2 rfl) ?_
    obtain ⟨x11, h12, hB4⟩ := bd_s hB4
    have K13 : W p l e rm_X5_sides s m args below meth c s.heap [] 0 0 Q (F0 m 55 ls [.int x11, .int z3.1]) := by
      refine lv_iadd hx hb dX5_sides_55 ?_
      refine lv_istore (lv' := [(4, .int (z3.1 + x11)), (0, .ref (a 0)), (1, .int y1), (2, .int y2), (3, .int y3), (5, .int z3.2)]) hx hb dX5_sides_56 hl (by decide) rfl (fun ls hl => ?_)
      refine lv_iinc (v := (z3.2 + 1)) (lv' := [(5, .int (z3.2 + 1)), (4, .int (z3.1 + x11)), (0, .ref (a 0)), (1, .int y1), (2, .int y2), (3, .int y3)]) hx hb dX5_sides_58 hl (k := 5) rfl rfl (by decide) rfl (fun ls hl => ?_)
      refine lv_goto (tgt := 6) hx hb dX5_sides_61 (by decide) ?_
      exact kI6 _ (Option.some.inj hB4).symm ls (lv_sub hl [2, 3, 4, 5, 1, 0] rfl)
    refine lv_icmp_ne (tgt := 54) hx hb dX5_sides_32 (by decide) (fun c14 => ?_) (fun c14 => ?_)
    · have h12 := if_f h12 c14
      refine lv_iconst (v := 0) hx hb dX5_sides_54 (by decide) ?_
      obtain rfl := Option.some.inj h12
      exact K13
    · have h12 := if_t h12 c14
      refine lv_aload_n hx hb dX5_sides_35 rfl (lv_at hl 0 rfl) ?_
      refine lv_iload_n hx hb dX5_sides_36 rfl (lv_at hl 1 rfl) ?_
      refine lv_iload hx hb dX5_sides_37 (lv_at hl 5 rfl) ?_
      refine lv_bipush (v := 16) hx hb dX5_sides_39 (by decide) ?_
      refine lv_irem hx hb dX5_sides_41 (by decide) ?_
      refine lv_iload hx hb dX5_sides_42 (lv_at hl 5 rfl) ?_
      refine lv_bipush (v := 16) hx hb dX5_sides_44 (by decide) ?_
      refine lv_idiv hx hb dX5_sides_46 (by decide) ?_
      refine lv_iload_n hx hb dX5_sides_47 rfl (lv_at hl 3 rfl) ?_
      obtain ⟨x15, h16, h12⟩ := bd_s h12
      refine cR_V (As := [.int y1, .int (z3.2 - z3.2 / 16 * 16), .int (z3.2 / 16), .int y3]) (rest := [.int z3.1]) (n := 4) (v := .int x15) hx hb hml hown hts hK hN hl.1 (c_X5_touching l D k a M y1 (z3.2 - z3.2 / 16 * 16) (z3.2 / 16) y3 x15 h16) gX5_sides_X5_touching rfl (by decide +kernel) ⟨⟨rfl, rfl⟩, by decide, by decide⟩ hP 0 5 rfl rfl rfl rfl rfl (Nat.le_of_ble_eq_true rfl) dX5_sides_48 ⟨Nat.zero_le _, Nat.zero_le _⟩ ?_
      refine lv_goto (tgt := 55) hx hb dX5_sides_51 (by decide) ?_
      obtain rfl := Option.some.inj h12
      exact K13

abbrev rm_X5_hasMean : Room := { frames := 1, cells := 0, slots := 0, locals := 23 }
def f_X5_hasMean (M : ModelV) (y1 : Int32) : Option (Bool) := (f_X5_workingOn M y1).bind (fun x1 => if x1 = 0 then (some false) else ((f_X5_plots M).bind (fun x4 => if x4 ≤ 0 then (some false) else (some true))))
set_option maxHeartbeats 4000000 in
set_option maxRecDepth 100000 in
theorem c_X5_hasMean (l : Launch) (D : va_G) (k : Nat → ClassId) (a : Nat → Nat) (M : ModelV) (y1 : Int32) (r : Bool) (h : f_X5_hasMean M y1 = some r) : Met l yX5_hasMean wsX5_hasMean rm_X5_hasMean (va_Pc [.ref (a 0), .int y1] (RB D k (modelW k a M))) (QR (some (.int (b2i r)))) 0 0 (fun _ => False) := by
  refine met_Rz (by decide) rfl (Nat.le_of_ble_eq_true rfl) ?_
  intro p e s m below meth c Q args ls hx hb hml hown hts hP hK hN hl hQ
  have hl : lv_has ls 2 [(0, .ref (a 0)), (1, .int y1)] := hl
  have hown : s.vm.findClass RX5 = some m.cls := hown
  unfold f_X5_hasMean at h
  refine lv_aload_n hx hb dX5_hasMean_0 rfl (lv_at hl 0 rfl) ?_
  refine lv_iload_n hx hb dX5_hasMean_1 rfl (lv_at hl 1 rfl) ?_
  obtain ⟨x1, h2, h⟩ := bd_s h
  refine cR_V (As := [.int y1]) (rest := []) (n := 1) (v := .int x1) hx hb hml hown hts hK hN hl.1 (c_X5_workingOn l D k a M y1 x1 h2) gX5_hasMean_X5_workingOn rfl (by decide +kernel) ⟨⟨rfl, rfl⟩, by decide, by decide⟩ hP 0 5 rfl rfl rfl rfl rfl (Nat.le_of_ble_eq_true rfl) dX5_hasMean_2 ⟨Nat.zero_le _, Nat.zero_le _⟩ ?_
  refine lv_if_eq (tgt := 19) hx hb dX5_hasMean_5 (by decide) (fun c3 => ?_) (fun c3 => ?_)
  · have h := if_t h c3
    refine lv_iconst (v := 0) hx hb dX5_hasMean_19 (by decide) ?_
    obtain rfl := Option.some.inj h
    exact hQ _ _ dX5_hasMean_20
  · have h := if_f h c3
    refine lv_aload_n hx hb dX5_hasMean_8 rfl (lv_at hl 0 rfl) ?_
    obtain ⟨x4, h5, h⟩ := bd_s h
    refine cR_V (As := []) (rest := []) (n := 0) (v := .int x4) hx hb hml hown hts hK hN hl.1 (c_X5_plots l D k a M x4 h5) gX5_hasMean_X5_plots rfl (by decide +kernel) ⟨⟨rfl, rfl⟩, by decide, by decide⟩ hP 0 5 rfl rfl rfl rfl rfl (Nat.le_of_ble_eq_true rfl) dX5_hasMean_9 ⟨Nat.zero_le _, Nat.zero_le _⟩ ?_
    refine lv_if_le (tgt := 19) hx hb dX5_hasMean_12 (by decide) (fun c6 => ?_) (fun c6 => ?_)
    · have h := if_t h c6
      refine lv_iconst (v := 0) hx hb dX5_hasMean_19 (by decide) ?_
      obtain rfl := Option.some.inj h
      exact hQ _ _ dX5_hasMean_20
    · have h := if_f h c6
      refine lv_iconst (v := 1) hx hb dX5_hasMean_15 (by decide) ?_
      refine lv_goto (tgt := 20) hx hb dX5_hasMean_16 (by decide) ?_
      obtain rfl := Option.some.inj h
      exact hQ _ _ dX5_hasMean_20

abbrev rm_X5_water : Room := { frames := 4, cells := 0, slots := 0, locals := 94 }
def f_X5_water_L11 (M : ModelV) (y1 : Int32) (y2 : Int32) (z : Int32 × Int32) : Option ((Int32 × Int32) ⊕ (Int32)) := if M.2.2.1 ≤ z.2 then (some (.inr z.1)) else ((f_X5_has y2 z.2).bind (fun x4 => (if (b2i x4) = 0 then (some 0) else ((f_X5_size M y2 z.2).bind (fun x10 => gd (ix ((64 * z.2) + y1) 512) (some (x10 * (M.2.2.2.2.2.2.2.1 (((64 * z.2) + y1) : Int32).toNatClampNeg))))) : Option (Int32)).bind (fun x6 => some (.inl ((z.1 + x6), (z.2 + 1))))))
def f_X5_water (M : ModelV) (y1 : Int32) : Option (Int32) := (f_X5_workingOn M y1).bind (fun x1 => (lp (f_X5_water_L11 M y1 x1) fu (0, 0)).bind (fun x3 => some x3))
set_option maxHeartbeats 4000000 in
set_option maxRecDepth 100000 in
theorem c_X5_water (l : Launch) (D : va_G) (k : Nat → ClassId) (a : Nat → Nat) (M : ModelV) (y1 : Int32) (r : Int32) (h : f_X5_water M y1 = some r) : Met l yX5_water wsX5_water rm_X5_water (va_Pc [.ref (a 0), .int y1] (RB D k (modelW k a M))) (QR (some (.int r))) 0 0 (fun _ => False) := by
  refine met_Ri (by decide) rfl (Nat.le_of_ble_eq_true rfl) ?_
  intro p e s m below meth c Q args ls hx hb hml hown hts hP hK hN hl hQ
  have hl : lv_has ls 5 [(0, .ref (a 0)), (1, .int y1)] := hl
  have hown : s.vm.findClass RX5 = some m.cls := hown
  unfold f_X5_water at h
  have hiRX5 : ∀ w ∈ u_ws RX5 TX5 19, w ∈ wsX5_water := by decide +kernel
  have hf53 := hts (.fieldLink RX5 53 "RainCellsModel" "many" "I") (by decide +kernel)
  have hf29 := hts (.fieldLink RX5 29 "RainCellsModel" "readings" "[I") (by decide +kernel)
  refine lv_aload_n hx hb dX5_water_0 rfl (lv_at hl 0 rfl) ?_
  refine lv_iload_n hx hb dX5_water_1 rfl (lv_at hl 1 rfl) ?_
  obtain ⟨x1, h2, h⟩ := bd_s h
  refine cR_V (As := [.int y1]) (rest := []) (n := 1) (v := .int x1) hx hb hml hown hts hK hN hl.1 (c_X5_workingOn l D k a M y1 x1 h2) gX5_water_X5_workingOn rfl (by decide +kernel) ⟨⟨rfl, rfl⟩, by decide, by decide⟩ hP 0 5 rfl rfl rfl rfl rfl (Nat.le_of_ble_eq_true rfl) dX5_water_2 ⟨Nat.zero_le _, Nat.zero_le _⟩ ?_
  refine lv_istore_n (lv' := [(2, .int x1), (0, .ref (a 0)), (1, .int y1)]) hx hb dX5_water_5 rfl hl (by decide) rfl (fun ls hl => ?_)
  refine lv_iconst (v := 0) hx hb dX5_water_6 (by decide) ?_
  refine lv_istore_n (lv' := [(3, .int 0), (2, .int x1), (0, .ref (a 0)), (1, .int y1)]) hx hb dX5_water_7 rfl hl (by decide) rfl (fun ls hl => ?_)
  refine lv_iconst (v := 0) hx hb dX5_water_8 (by decide) ?_
  refine lv_istore (lv' := [(4, .int 0), (3, .int 0), (2, .int x1), (0, .ref (a 0)), (1, .int y1)]) hx hb dX5_water_9 hl (by decide) rfl (fun ls hl => ?_)
  obtain ⟨x3, h4, h⟩ := bd_s h
  have K20 : ∀ (ls : Array Slot), lv_has ls 5 [(3, .int x3)] → W p l e rm_X5_water s m args below meth c s.heap [] 0 0 Q (F0 m 62 ls []) := by
    intro ls hl
    refine lv_iload_n hx hb dX5_water_62 rfl (lv_at hl 0 rfl) ?_
    obtain rfl := Option.some.inj h
    exact hQ _ _ dX5_water_63
  refine lp_W (P := fun z5 => ∀ (ls : Array Slot), lv_has ls 5 [(0, .ref (a 0)), (1, .int y1), (2, .int x1), (3, .int z5.1), (4, .int z5.2)] → W p l e rm_X5_water s m args below meth c s.heap [] 0 0 Q (F0 m 11 ls [])) (E := fun x3 => ∀ (ls : Array Slot), lv_has ls 5 [(3, .int x3)] → W p l e rm_X5_water s m args below meth c s.heap [] 0 0 Q (F0 m 62 ls [])) (fun z5 xx7 hB6 kI8 kE9 => ?_) _ _ _ h4 K20 ls (lv_sub hl [3, 4, 2, 1, 0] rfl)
  intro ls hl
  unfold f_X5_water_L11 at hB6
  refine lv_iload hx hb dX5_water_11 (lv_at hl 4 rfl) ?_
  refine lv_aload_n hx hb dX5_water_13 rfl (lv_at hl 0 rfl) ?_
  refine va_get (D := D) (ci := 5) (v := .int M.2.2.1) (C := RX5) (T := TX5) (N := 19) hx hb hts hiRX5 hown hK hP 0 rfl rfl 2 (by decide) hf53 (fun _ h9 => h9) rfl dX5_water_14 ?_
  refine lv_icmp_ge (tgt := 62) hx hb dX5_water_17 (by decide) (fun c10 => ?_) (fun c10 => ?_)
  · have hB6 := if_t hB6 c10
    exact kE9 _ (Option.some.inj hB6).symm ls (lv_sub hl [3] rfl)
  · have hB6 := if_f hB6 c10
    refine lv_iload_n hx hb dX5_water_20 rfl (lv_at hl 3 rfl) ?_
    refine lv_iload_n hx hb dX5_water_21 rfl (lv_at hl 2 rfl) ?_
    refine lv_iload hx hb dX5_water_22 (lv_at hl 4 rfl) ?_
    obtain ⟨x11, h12, hB6⟩ := bd_s hB6
    refine cR_S (As := [.int x1, .int z5.2]) (rest := [.int z5.1]) (n := 2) (v := .int (b2i x11)) hx hb hml hown hts hK hN hl.1 (c_X5_has l D k x1 z5.2 x11 h12) gX5_water_X5_has rfl (by decide +kernel) ⟨⟨rfl, rfl⟩, by decide, by decide⟩ va_P_nil rfl rfl (Nat.le_of_ble_eq_true rfl) dX5_water_24 ⟨Nat.zero_le _, Nat.zero_le _⟩ ?_
    obtain ⟨x13, h14, hB6⟩ := bd_s hB6
    have K15 : W p l e rm_X5_water s m args below meth c s.heap [] 0 0 Q (F0 m 54 ls [.int x13, .int z5.1]) := by
      refine lv_iadd hx hb dX5_water_54 ?_
      refine lv_istore_n (lv' := [(3, .int (z5.1 + x13)), (0, .ref (a 0)), (1, .int y1), (2, .int x1), (4, .int z5.2)]) hx hb dX5_water_55 rfl hl (by decide) rfl (fun ls hl => ?_)
      refine lv_iinc (v := (z5.2 + 1)) (lv' := [(4, .int (z5.2 + 1)), (3, .int (z5.1 + x13)), (0, .ref (a 0)), (1, .int y1), (2, .int x1)]) hx hb dX5_water_56 hl (k := 4) rfl rfl (by decide) rfl (fun ls hl => ?_)
      refine lv_goto (tgt := 11) hx hb dX5_water_59 (by decide) ?_
      exact kI8 _ (Option.some.inj hB6).symm ls (lv_sub hl [2, 3, 4, 1, 0] rfl)
    refine lv_if_eq (tgt := 53) hx hb dX5_water_27 (by decide) (fun c16 => ?_) (fun c16 => ?_)
    · have h14 := if_t h14 c16
      refine lv_iconst (v := 0) hx hb dX5_water_53 (by decide) ?_
      obtain rfl := Option.some.inj h14
      exact K15
    · have h14 := if_f h14 c16
      refine lv_aload_n hx hb dX5_water_30 rfl (lv_at hl 0 rfl) ?_
      refine lv_iload_n hx hb dX5_water_31 rfl (lv_at hl 2 rfl) ?_
      refine lv_iload hx hb dX5_water_32 (lv_at hl 4 rfl) ?_
      obtain ⟨x17, h18, h14⟩ := bd_s h14
      refine cR_V (As := [.int x1, .int z5.2]) (rest := [.int z5.1]) (n := 2) (v := .int x17) hx hb hml hown hts hK hN hl.1 (c_X5_size l D k a M x1 z5.2 x17 h18) gX5_water_X5_size rfl (by decide +kernel) ⟨⟨rfl, rfl⟩, by decide, by decide⟩ hP 0 5 rfl rfl rfl rfl rfl (Nat.le_of_ble_eq_true rfl) dX5_water_34 ⟨Nat.zero_le _, Nat.zero_le _⟩ ?_
      refine lv_aload_n hx hb dX5_water_37 rfl (lv_at hl 0 rfl) ?_
      refine va_get (D := D) (ci := 5) (v := .ref (a 7)) (C := RX5) (T := TX5) (N := 19) hx hb hts hiRX5 hown hK hP 0 rfl rfl 7 (by decide) hf29 (fun _ h9 => h9) rfl dX5_water_38 ?_
      refine lv_bipush (v := 64) hx hb dX5_water_41 (by decide) ?_
      refine lv_iload hx hb dX5_water_43 (lv_at hl 4 rfl) ?_
      refine lv_imul hx hb dX5_water_45 ?_
      refine lv_iload_n hx hb dX5_water_46 rfl (lv_at hl 1 rfl) ?_
      refine lv_iadd hx hb dX5_water_47 ?_
      obtain ⟨c19, h14⟩ := gd_s h14
      refine va_iald (D := D) hx hb hK hP 7 0 rfl rfl (ix_in c19) dX5_water_48 ?_
      refine lv_imul hx hb dX5_water_49 ?_
      refine lv_goto (tgt := 54) hx hb dX5_water_50 (by decide) ?_
      obtain rfl := Option.some.inj h14
      exact K15

abbrev rm_X5_spreadWith : Room := { frames := 3, cells := 0, slots := 0, locals := 70 }
def f_X5_spreadWith_L6 (M : ModelV) (y1 : Int32) (y2 : Int32) (y3 : Int32) (z : Int32 × Int32) : Option ((Int32 × Int32) ⊕ (Int32)) := if 256 ≤ z.2 then (some (.inr z.1)) else ((f_X5_isPlot M (z.2 - z.2 / 16 * 16) (z.2 / 16)).bind (fun x2 => (if (b2i x2) = 0 then (some z.1) else ((f_X5_ownerOf M y1 (z.2 - z.2 / 16 * 16) (z.2 / 16)).bind (fun x8 => (f_X5_square ((z.2 - z.2 / 16 * 16) - y2)).bind (fun x10 => (f_X5_square ((z.2 / 16) - y3)).bind (fun x12 => (if x8 < 0 then (some (x10 + x12)) else ((f_X5_far M x8 (z.2 - z.2 / 16 * 16) (z.2 / 16)).bind (fun x18 => gd (ix x8 8) (if (x18 - (M.2.2.2.2.2.1 (x8 : Int32).toNatClampNeg)) ≤ (x10 + x12) then ((f_X5_far M x8 (z.2 - z.2 / 16 * 16) (z.2 / 16)).bind (fun x22 => some x22)) else (some (x10 + x12))))) : Option (Int32)).bind (fun x14 => some (z.1 + x14)))))) : Option (Int32)).bind (fun x4 => some (.inl (x4, (z.2 + 1))))))
def f_X5_spreadWith (M : ModelV) (y1 : Int32) (y2 : Int32) (y3 : Int32) : Option (Int32) := (lp (f_X5_spreadWith_L6 M y1 y2 y3) fu (0, 0)).bind (fun x1 => some x1)
set_option maxHeartbeats 4000000 in
set_option maxRecDepth 100000 in
theorem c_X5_spreadWith (l : Launch) (D : va_G) (k : Nat → ClassId) (a : Nat → Nat) (M : ModelV) (y1 : Int32) (y2 : Int32) (y3 : Int32) (r : Int32) (h : f_X5_spreadWith M y1 y2 y3 = some r) : Met l yX5_spreadWith wsX5_spreadWith rm_X5_spreadWith (va_Pc [.ref (a 0), .int y1, .int y2, .int y3] (RB D k (modelW k a M))) (QR (some (.int r))) 0 0 (fun _ => False) := by
  refine met_Ri (by decide) rfl (Nat.le_of_ble_eq_true rfl) ?_
  intro p e s m below meth c Q args ls hx hb hml hown hts hP hK hN hl hQ
  have hl : lv_has ls 10 [(0, .ref (a 0)), (1, .int y1), (2, .int y2), (3, .int y3)] := hl
  have hown : s.vm.findClass RX5 = some m.cls := hown
  unfold f_X5_spreadWith at h
  have hiRX5 : ∀ w ∈ u_ws RX5 TX5 19, w ∈ wsX5_spreadWith := by decide +kernel
  have hf22 := hts (.fieldLink RX5 22 "RainCellsModel" "reach" "[I") (by decide +kernel)
  refine lv_iconst (v := 0) hx hb dX5_spreadWith_0 (by decide) ?_
  refine lv_istore (lv' := [(4, .int 0), (0, .ref (a 0)), (1, .int y1), (2, .int y2), (3, .int y3)]) hx hb dX5_spreadWith_1 hl (by decide) rfl (fun ls hl => ?_)
  refine lv_iconst (v := 0) hx hb dX5_spreadWith_3 (by decide) ?_
  refine lv_istore (lv' := [(5, .int 0), (4, .int 0), (0, .ref (a 0)), (1, .int y1), (2, .int y2), (3, .int y3)]) hx hb dX5_spreadWith_4 hl (by decide) rfl (fun ls hl => ?_)
  obtain ⟨x1, h2, h⟩ := bd_s h
  have K31 : ∀ (ls : Array Slot), lv_has ls 10 [(4, .int x1)] → W p l e rm_X5_spreadWith s m args below meth c s.heap [] 0 0 Q (F0 m 121 ls []) := by
    intro ls hl
    refine lv_iload hx hb dX5_spreadWith_121 (lv_at hl 0 rfl) ?_
    obtain rfl := Option.some.inj h
    exact hQ _ _ dX5_spreadWith_123
  refine lp_W (P := fun z3 => ∀ (ls : Array Slot), lv_has ls 10 [(0, .ref (a 0)), (1, .int y1), (2, .int y2), (3, .int y3), (4, .int z3.1), (5, .int z3.2)] → W p l e rm_X5_spreadWith s m args below meth c s.heap [] 0 0 Q (F0 m 6 ls [])) (E := fun x1 => ∀ (ls : Array Slot), lv_has ls 10 [(4, .int x1)] → W p l e rm_X5_spreadWith s m args below meth c s.heap [] 0 0 Q (F0 m 121 ls [])) (fun z3 xx5 hB4 kI6 kE7 => ?_) _ _ _ h2 K31 ls (lv_sub hl [2, 3, 4, 5, 1, 0] rfl)
  intro ls hl
  unfold f_X5_spreadWith_L6 at hB4
  refine lv_iload hx hb dX5_spreadWith_6 (lv_at hl 5 rfl) ?_
  refine lv_sipush (v := 256) hx hb dX5_spreadWith_8 (by decide) ?_
  refine lv_icmp_ge (tgt := 121) hx hb dX5_spreadWith_11 (by decide) (fun c8 => ?_) (fun c8 => ?_)
  · have hB4 := if_t hB4 c8
    exact kE7 _ (Option.some.inj hB4).symm ls (lv_sub hl [4] rfl)
  · have hB4 := if_f hB4 c8
    refine lv_iload hx hb dX5_spreadWith_14 (lv_at hl 5 rfl) ?_
    refine lv_bipush (v := 16) hx hb dX5_spreadWith_16 (by decide) ?_
    refine lv_irem hx hb dX5_spreadWith_18 (by decide) ?_
    refine lv_istore (lv' := [(6, .int (z3.2 - z3.2 / 16 * 16)), (0, .ref (a 0)), (1, .int y1), (2, .int y2), (3, .int y3), (4, .int z3.1), (5, .int z3.2)]) hx hb dX5_spreadWith_19 hl (by decide) rfl (fun ls hl => ?_)
    refine lv_iload hx hb dX5_spreadWith_21 (lv_at hl 6 rfl) ?_
    refine lv_bipush (v := 16) hx hb dX5_spreadWith_23 (by decide) ?_
    refine lv_idiv hx hb dX5_spreadWith_25 (by decide) ?_
    refine lv_istore (lv' := [(7, .int (z3.2 / 16)), (6, .int (z3.2 - z3.2 / 16 * 16)), (0, .ref (a 0)), (1, .int y1), (2, .int y2), (3, .int y3), (4, .int z3.1), (5, .int z3.2)]) hx hb dX5_spreadWith_26 hl (by decide) rfl (fun ls hl => ?_)
    refine lv_aload_n hx hb dX5_spreadWith_28 rfl (lv_at hl 2 rfl) ?_
    refine lv_iload hx hb dX5_spreadWith_29 (lv_at hl 1 rfl) ?_
    refine lv_iload hx hb dX5_spreadWith_31 (lv_at hl 0 rfl) ?_
    obtain ⟨x9, h10, hB4⟩ := bd_s hB4
    refine cR_V (As := [.int (z3.2 - z3.2 / 16 * 16), .int (z3.2 / 16)]) (rest := []) (n := 2) (v := .int (b2i x9)) hx hb hml hown hts hK hN hl.1 (c_X5_isPlot l D k a M (z3.2 - z3.2 / 16 * 16) (z3.2 / 16) x9 h10) gX5_spreadWith_X5_isPlot rfl (by decide +kernel) ⟨⟨rfl, rfl⟩, by decide, by decide⟩ hP 0 5 rfl rfl rfl rfl rfl (Nat.le_of_ble_eq_true rfl) dX5_spreadWith_33 ⟨Nat.zero_le _, Nat.zero_le _⟩ ?_
    obtain ⟨x11, h12, hB4⟩ := bd_s hB4
    have K13 : ∀ (ls : Array Slot), lv_has ls 10 [(0, .ref (a 0)), (1, .int y1), (2, .int y2), (3, .int y3), (4, .int x11), (5, .int z3.2)] → W p l e rm_X5_spreadWith s m args below meth c s.heap [] 0 0 Q (F0 m 115 ls []) := by
      intro ls hl
      refine lv_iinc (v := (z3.2 + 1)) (lv' := [(5, .int (z3.2 + 1)), (0, .ref (a 0)), (1, .int y1), (2, .int y2), (3, .int y3), (4, .int x11)]) hx hb dX5_spreadWith_115 hl (k := 5) rfl rfl (by decide) rfl (fun ls hl => ?_)
      refine lv_goto (tgt := 6) hx hb dX5_spreadWith_118 (by decide) ?_
      exact kI6 _ (Option.some.inj hB4).symm ls (lv_sub hl [1, 2, 3, 4, 5, 0] rfl)
    refine lv_if_eq (tgt := 115) hx hb dX5_spreadWith_36 (by decide) (fun c14 => ?_) (fun c14 => ?_)
    · have h12 := if_t h12 c14
      obtain rfl := Option.some.inj h12
      exact K13 ls (lv_sub hl [2, 3, 4, 5, 6, 7] rfl)
    · have h12 := if_f h12 c14
      refine lv_aload_n hx hb dX5_spreadWith_39 rfl (lv_at hl 2 rfl) ?_
      refine lv_iload_n hx hb dX5_spreadWith_40 rfl (lv_at hl 3 rfl) ?_
      refine lv_iload hx hb dX5_spreadWith_41 (lv_at hl 1 rfl) ?_
      refine lv_iload hx hb dX5_spreadWith_43 (lv_at hl 0 rfl) ?_
      obtain ⟨x15, h16, h12⟩ := bd_s h12
      refine cR_V (As := [.int y1, .int (z3.2 - z3.2 / 16 * 16), .int (z3.2 / 16)]) (rest := []) (n := 3) (v := .int x15) hx hb hml hown hts hK hN hl.1 (c_X5_ownerOf l D k a M y1 (z3.2 - z3.2 / 16 * 16) (z3.2 / 16) x15 h16) gX5_spreadWith_X5_ownerOf rfl (by decide +kernel) ⟨⟨rfl, rfl⟩, by decide, by decide⟩ hP 0 5 rfl rfl rfl rfl rfl (Nat.le_of_ble_eq_true rfl) dX5_spreadWith_45 ⟨Nat.zero_le _, Nat.zero_le _⟩ ?_
      refine lv_istore (lv' := [(8, .int x15), (7, .int (z3.2 / 16)), (6, .int (z3.2 - z3.2 / 16 * 16)), (0, .ref (a 0)), (1, .int y1), (2, .int y2), (3, .int y3), (4, .int z3.1), (5, .int z3.2)]) hx hb dX5_spreadWith_48 hl (by decide) rfl (fun ls hl => ?_)
      refine lv_iload hx hb dX5_spreadWith_50 (lv_at hl 2 rfl) ?_
      refine lv_iload_n hx hb dX5_spreadWith_52 rfl (lv_at hl 5 rfl) ?_
      refine lv_isub hx hb dX5_spreadWith_53 ?_
      obtain ⟨x17, h18, h12⟩ := bd_s h12
      refine cR_S (As := [.int ((z3.2 - z3.2 / 16 * 16) - y2)]) (rest := []) (n := 1) (v := .int x17) hx hb hml hown hts hK hN hl.1 (c_X5_square l D k ((z3.2 - z3.2 / 16 * 16) - y2) x17 h18) gX5_spreadWith_X5_square rfl (by decide +kernel) ⟨⟨rfl, rfl⟩, by decide, by decide⟩ va_P_nil rfl rfl (Nat.le_of_ble_eq_true rfl) dX5_spreadWith_54 ⟨Nat.zero_le _, Nat.zero_le _⟩ ?_
      refine lv_iload hx hb dX5_spreadWith_57 (lv_at hl 1 rfl) ?_
      refine lv_iload_n hx hb dX5_spreadWith_59 rfl (lv_at hl 6 rfl) ?_
      refine lv_isub hx hb dX5_spreadWith_60 ?_
      obtain ⟨x19, h20, h12⟩ := bd_s h12
      refine cR_S (As := [.int ((z3.2 / 16) - y3)]) (rest := [.int x17]) (n := 1) (v := .int x19) hx hb hml hown hts hK hN hl.1 (c_X5_square l D k ((z3.2 / 16) - y3) x19 h20) gX5_spreadWith_X5_square rfl (by decide +kernel) ⟨⟨rfl, rfl⟩, by decide, by decide⟩ va_P_nil rfl rfl (Nat.le_of_ble_eq_true rfl) dX5_spreadWith_61 ⟨Nat.zero_le _, Nat.zero_le _⟩ ?_
      refine lv_iadd hx hb dX5_spreadWith_64 ?_
      refine lv_istore (lv' := [(9, .int (x17 + x19)), (8, .int x15), (7, .int (z3.2 / 16)), (6, .int (z3.2 - z3.2 / 16 * 16)), (0, .ref (a 0)), (1, .int y1), (2, .int y2), (3, .int y3), (4, .int z3.1), (5, .int z3.2)]) hx hb dX5_spreadWith_65 hl (by decide) rfl (fun ls hl => ?_)
      refine lv_iload hx hb dX5_spreadWith_67 (lv_at hl 8 rfl) ?_
      refine lv_iload hx hb dX5_spreadWith_69 (lv_at hl 1 rfl) ?_
      obtain ⟨x21, h22, h12⟩ := bd_s h12
      have K23 : W p l e rm_X5_spreadWith s m args below meth c s.heap [] 0 0 Q (F0 m 112 ls [.int x21, .int z3.1]) := by
        refine lv_iadd hx hb dX5_spreadWith_112 ?_
        refine lv_istore (lv' := [(4, .int (z3.1 + x21)), (9, .int (x17 + x19)), (8, .int x15), (7, .int (z3.2 / 16)), (6, .int (z3.2 - z3.2 / 16 * 16)), (0, .ref (a 0)), (1, .int y1), (2, .int y2), (3, .int y3), (5, .int z3.2)]) hx hb dX5_spreadWith_113 hl (by decide) rfl (fun ls hl => ?_)
        obtain rfl := Option.some.inj h12
        exact K13 ls (lv_sub hl [5, 6, 7, 8, 0, 9] rfl)
      refine lv_if_lt (tgt := 97) hx hb dX5_spreadWith_71 (by decide) (fun c24 => ?_) (fun c24 => ?_)
      · have h22 := if_t h22 c24
        refine lv_iload hx hb dX5_spreadWith_97 (lv_at hl 0 rfl) ?_
        refine lv_goto (tgt := 112) hx hb dX5_spreadWith_99 (by decide) ?_
        obtain rfl := Option.some.inj h22
        exact K23
      · have h22 := if_f h22 c24
        refine lv_iload hx hb dX5_spreadWith_74 (lv_at hl 0 rfl) ?_
        refine lv_aload_n hx hb dX5_spreadWith_76 rfl (lv_at hl 4 rfl) ?_
        refine lv_iload hx hb dX5_spreadWith_77 (lv_at hl 1 rfl) ?_
        refine lv_iload hx hb dX5_spreadWith_79 (lv_at hl 3 rfl) ?_
        refine lv_iload hx hb dX5_spreadWith_81 (lv_at hl 2 rfl) ?_
        obtain ⟨x25, h26, h22⟩ := bd_s h22
        refine cR_V (As := [.int x15, .int (z3.2 - z3.2 / 16 * 16), .int (z3.2 / 16)]) (rest := [.int (x17 + x19), .int z3.1]) (n := 3) (v := .int x25) hx hb hml hown hts hK hN hl.1 (c_X5_far l D k a M x15 (z3.2 - z3.2 / 16 * 16) (z3.2 / 16) x25 h26) gX5_spreadWith_X5_far rfl (by decide +kernel) ⟨⟨rfl, rfl⟩, by decide, by decide⟩ hP 0 5 rfl rfl rfl rfl rfl (Nat.le_of_ble_eq_true rfl) dX5_spreadWith_83 ⟨Nat.zero_le _, Nat.zero_le _⟩ ?_
        refine lv_aload_n hx hb dX5_spreadWith_86 rfl (lv_at hl 4 rfl) ?_
        refine va_get (D := D) (ci := 5) (v := .ref (a 5)) (C := RX5) (T := TX5) (N := 19) hx hb hts hiRX5 hown hK hP 0 rfl rfl 5 (by decide) hf22 (fun _ h9 => h9) rfl dX5_spreadWith_87 ?_
        refine lv_iload hx hb dX5_spreadWith_90 (lv_at hl 1 rfl) ?_
        obtain ⟨c27, h22⟩ := gd_s h22
        refine va_iald (D := D) hx hb hK hP 5 0 rfl rfl (ix_in c27) dX5_spreadWith_92 ?_
        refine lv_isub hx hb dX5_spreadWith_93 ?_
        refine lv_icmp_ge (tgt := 102) hx hb dX5_spreadWith_94 (by decide) (fun c28 => ?_) (fun c28 => ?_)
        · have h22 := if_t h22 c28
          refine lv_aload_n hx hb dX5_spreadWith_102 rfl (lv_at hl 4 rfl) ?_
          refine lv_iload hx hb dX5_spreadWith_103 (lv_at hl 1 rfl) ?_
          refine lv_iload hx hb dX5_spreadWith_105 (lv_at hl 3 rfl) ?_
          refine lv_iload hx hb dX5_spreadWith_107 (lv_at hl 2 rfl) ?_
          obtain ⟨x29, h30, h22⟩ := bd_s h22
          refine cR_V (As := [.int x15, .int (z3.2 - z3.2 / 16 * 16), .int (z3.2 / 16)]) (rest := [.int z3.1]) (n := 3) (v := .int x29) hx hb hml hown hts hK hN hl.1 (c_X5_far l D k a M x15 (z3.2 - z3.2 / 16 * 16) (z3.2 / 16) x29 h30) gX5_spreadWith_X5_far rfl (by decide +kernel) ⟨⟨rfl, rfl⟩, by decide, by decide⟩ hP 0 5 rfl rfl rfl rfl rfl (Nat.le_of_ble_eq_true rfl) dX5_spreadWith_109 ⟨Nat.zero_le _, Nat.zero_le _⟩ ?_
          obtain rfl := Option.some.inj h22
          exact K23
        · have h22 := if_f h22 c28
          refine lv_iload hx hb dX5_spreadWith_97 (lv_at hl 0 rfl) ?_
          refine lv_goto (tgt := 112) hx hb dX5_spreadWith_99 (by decide) ?_
          obtain rfl := Option.some.inj h22
          exact K23

abbrev rm_X5_sharedOf : Room := { frames := 3, cells := 0, slots := 0, locals := 70 }
def f_X5_sharedOf_L6 (M : ModelV) (y1 : Int32) (y2 : Int32) (y3 : Int32) (z : Int32 × Int32) : Option ((Int32 × Int32) ⊕ (Int32)) := if 256 ≤ z.2 then (some (.inr z.1)) else ((f_X5_isPlot M (z.2 - z.2 / 16 * 16) (z.2 / 16)).bind (fun x2 => (if (b2i x2) = 0 then (some 0) else ((f_X5_ownerOf M (y1 ||| ((1 : Int32) <<< (y2 &&& 31))) (z.2 - z.2 / 16 * 16) (z.2 / 16)).bind (fun x8 => if x8 = y2 then ((f_X5_ownerOf M (y1 &&& (((1 : Int32) <<< (y2 &&& 31)) ^^^ (-1))) (z.2 - z.2 / 16 * 16) (z.2 / 16)).bind (fun x11 => if x11 = y3 then (some 1) else (some 0))) else (some 0))) : Option (Int32)).bind (fun x4 => some (.inl ((z.1 + x4), (z.2 + 1))))))
def f_X5_sharedOf (M : ModelV) (y1 : Int32) (y2 : Int32) (y3 : Int32) : Option (Int32) := (lp (f_X5_sharedOf_L6 M y1 y2 y3) fu (0, 0)).bind (fun x1 => some x1)
set_option maxHeartbeats 4000000 in
set_option maxRecDepth 100000 in
theorem c_X5_sharedOf (l : Launch) (D : va_G) (k : Nat → ClassId) (a : Nat → Nat) (M : ModelV) (y1 : Int32) (y2 : Int32) (y3 : Int32) (r : Int32) (h : f_X5_sharedOf M y1 y2 y3 = some r) : Met l yX5_sharedOf wsX5_sharedOf rm_X5_sharedOf (va_Pc [.ref (a 0), .int y1, .int y2, .int y3] (RB D k (modelW k a M))) (QR (some (.int r))) 0 0 (fun _ => False) := by
  refine met_Ri (by decide) rfl (Nat.le_of_ble_eq_true rfl) ?_
  intro p e s m below meth c Q args ls hx hb hml hown hts hP hK hN hl hQ
  have hl : lv_has ls 8 [(0, .ref (a 0)), (1, .int y1), (2, .int y2), (3, .int y3)] := hl
  have hown : s.vm.findClass RX5 = some m.cls := hown
  unfold f_X5_sharedOf at h
  refine lv_iconst (v := 0) hx hb dX5_sharedOf_0 (by decide) ?_
  refine lv_istore (lv' := [(4, .int 0), (0, .ref (a 0)), (1, .int y1), (2, .int y2), (3, .int y3)]) hx hb dX5_sharedOf_1 hl (by decide) rfl (fun ls hl => ?_)
  refine lv_iconst (v := 0) hx hb dX5_sharedOf_3 (by decide) ?_
  refine lv_istore (lv' := [(5, .int 0), (4, .int 0), (0, .ref (a 0)), (1, .int y1), (2, .int y2), (3, .int y3)]) hx hb dX5_sharedOf_4 hl (by decide) rfl (fun ls hl => ?_)
  obtain ⟨x1, h2, h⟩ := bd_s h
  have K21 : ∀ (ls : Array Slot), lv_has ls 8 [(4, .int x1)] → W p l e rm_X5_sharedOf s m args below meth c s.heap [] 0 0 Q (F0 m 91 ls []) := by
    intro ls hl
    refine lv_iload hx hb dX5_sharedOf_91 (lv_at hl 0 rfl) ?_
    obtain rfl := Option.some.inj h
    exact hQ _ _ dX5_sharedOf_93
  refine lp_W (P := fun z3 => ∀ (ls : Array Slot), lv_has ls 8 [(0, .ref (a 0)), (1, .int y1), (2, .int y2), (3, .int y3), (4, .int z3.1), (5, .int z3.2)] → W p l e rm_X5_sharedOf s m args below meth c s.heap [] 0 0 Q (F0 m 6 ls [])) (E := fun x1 => ∀ (ls : Array Slot), lv_has ls 8 [(4, .int x1)] → W p l e rm_X5_sharedOf s m args below meth c s.heap [] 0 0 Q (F0 m 91 ls [])) (fun z3 xx5 hB4 kI6 kE7 => ?_) _ _ _ h2 K21 ls (lv_sub hl [2, 3, 4, 5, 1, 0] rfl)
  intro ls hl
  unfold f_X5_sharedOf_L6 at hB4
  refine lv_iload hx hb dX5_sharedOf_6 (lv_at hl 5 rfl) ?_
  refine lv_sipush (v := 256) hx hb dX5_sharedOf_8 (by decide) ?_
  refine lv_icmp_ge (tgt := 91) hx hb dX5_sharedOf_11 (by decide) (fun c8 => ?_) (fun c8 => ?_)
  · have hB4 := if_t hB4 c8
    exact kE7 _ (Option.some.inj hB4).symm ls (lv_sub hl [4] rfl)
  · have hB4 := if_f hB4 c8
    refine lv_iload hx hb dX5_sharedOf_14 (lv_at hl 5 rfl) ?_
    refine lv_bipush (v := 16) hx hb dX5_sharedOf_16 (by decide) ?_
    refine lv_irem hx hb dX5_sharedOf_18 (by decide) ?_
    refine lv_istore (lv' := [(6, .int (z3.2 - z3.2 / 16 * 16)), (0, .ref (a 0)), (1, .int y1), (2, .int y2), (3, .int y3), (4, .int z3.1), (5, .int z3.2)]) hx hb dX5_sharedOf_19 hl (by decide) rfl (fun ls hl => ?_)
    refine lv_iload hx hb dX5_sharedOf_21 (lv_at hl 6 rfl) ?_
    refine lv_bipush (v := 16) hx hb dX5_sharedOf_23 (by decide) ?_
    refine lv_idiv hx hb dX5_sharedOf_25 (by decide) ?_
    refine lv_istore (lv' := [(7, .int (z3.2 / 16)), (6, .int (z3.2 - z3.2 / 16 * 16)), (0, .ref (a 0)), (1, .int y1), (2, .int y2), (3, .int y3), (4, .int z3.1), (5, .int z3.2)]) hx hb dX5_sharedOf_26 hl (by decide) rfl (fun ls hl => ?_)
    refine lv_iload hx hb dX5_sharedOf_28 (lv_at hl 6 rfl) ?_
    refine lv_aload_n hx hb dX5_sharedOf_30 rfl (lv_at hl 2 rfl) ?_
    refine lv_iload hx hb dX5_sharedOf_31 (lv_at hl 1 rfl) ?_
    refine lv_iload hx hb dX5_sharedOf_33 (lv_at hl 0 rfl) ?_
    obtain ⟨x9, h10, hB4⟩ := bd_s hB4
    refine cR_V (As := [.int (z3.2 - z3.2 / 16 * 16), .int (z3.2 / 16)]) (rest := [.int z3.1]) (n := 2) (v := .int (b2i x9)) hx hb hml hown hts hK hN hl.1 (c_X5_isPlot l D k a M (z3.2 - z3.2 / 16 * 16) (z3.2 / 16) x9 h10) gX5_sharedOf_X5_isPlot rfl (by decide +kernel) ⟨⟨rfl, rfl⟩, by decide, by decide⟩ hP 0 5 rfl rfl rfl rfl rfl (Nat.le_of_ble_eq_true rfl) dX5_sharedOf_35 ⟨Nat.zero_le _, Nat.zero_le _⟩ ?_
    obtain ⟨x11, h12, hB4⟩ := bd_s hB4
    have K13 : W p l e rm_X5_sharedOf s m args below meth c s.heap [] 0 0 Q (F0 m 82 ls [.int x11, .int z3.1]) := by
      refine lv_iadd hx hb dX5_sharedOf_82 ?_
      refine lv_istore (lv' := [(4, .int (z3.1 + x11)), (7, .int (z3.2 / 16)), (6, .int (z3.2 - z3.2 / 16 * 16)), (0, .ref (a 0)), (1, .int y1), (2, .int y2), (3, .int y3), (5, .int z3.2)]) hx hb dX5_sharedOf_83 hl (by decide) rfl (fun ls hl => ?_)
      refine lv_iinc (v := (z3.2 + 1)) (lv' := [(5, .int (z3.2 + 1)), (4, .int (z3.1 + x11)), (7, .int (z3.2 / 16)), (6, .int (z3.2 - z3.2 / 16 * 16)), (0, .ref (a 0)), (1, .int y1), (2, .int y2), (3, .int y3)]) hx hb dX5_sharedOf_85 hl (k := 7) rfl rfl (by decide) rfl (fun ls hl => ?_)
      refine lv_goto (tgt := 6) hx hb dX5_sharedOf_88 (by decide) ?_
      exact kI6 _ (Option.some.inj hB4).symm ls (lv_sub hl [4, 5, 6, 7, 1, 0] rfl)
    refine lv_if_eq (tgt := 81) hx hb dX5_sharedOf_38 (by decide) (fun c14 => ?_) (fun c14 => ?_)
    · have h12 := if_t h12 c14
      refine lv_iconst (v := 0) hx hb dX5_sharedOf_81 (by decide) ?_
      obtain rfl := Option.some.inj h12
      exact K13
    · have h12 := if_f h12 c14
      refine lv_aload_n hx hb dX5_sharedOf_41 rfl (lv_at hl 2 rfl) ?_
      refine lv_iload_n hx hb dX5_sharedOf_42 rfl (lv_at hl 3 rfl) ?_
      refine lv_iconst (v := 1) hx hb dX5_sharedOf_43 (by decide) ?_
      refine lv_iload_n hx hb dX5_sharedOf_44 rfl (lv_at hl 4 rfl) ?_
      refine lv_ishl hx hb dX5_sharedOf_45 ?_
      refine lv_ior hx hb dX5_sharedOf_46 ?_
      refine lv_iload hx hb dX5_sharedOf_47 (lv_at hl 1 rfl) ?_
      refine lv_iload hx hb dX5_sharedOf_49 (lv_at hl 0 rfl) ?_
      obtain ⟨x15, h16, h12⟩ := bd_s h12
      refine cR_V (As := [.int (y1 ||| ((1 : Int32) <<< (y2 &&& 31))), .int (z3.2 - z3.2 / 16 * 16), .int (z3.2 / 16)]) (rest := [.int z3.1]) (n := 3) (v := .int x15) hx hb hml hown hts hK hN hl.1 (c_X5_ownerOf l D k a M (y1 ||| ((1 : Int32) <<< (y2 &&& 31))) (z3.2 - z3.2 / 16 * 16) (z3.2 / 16) x15 h16) gX5_sharedOf_X5_ownerOf rfl (by decide +kernel) ⟨⟨rfl, rfl⟩, by decide, by decide⟩ hP 0 5 rfl rfl rfl rfl rfl (Nat.le_of_ble_eq_true rfl) dX5_sharedOf_51 ⟨Nat.zero_le _, Nat.zero_le _⟩ ?_
      refine lv_iload_n hx hb dX5_sharedOf_54 rfl (lv_at hl 4 rfl) ?_
      refine lv_icmp_ne (tgt := 81) hx hb dX5_sharedOf_55 (by decide) (fun c17 => ?_) (fun c17 => ?_)
      · have h12 := if_f h12 c17
        refine lv_iconst (v := 0) hx hb dX5_sharedOf_81 (by decide) ?_
        obtain rfl := Option.some.inj h12
        exact K13
      · have h12 := if_t h12 c17
        refine lv_aload_n hx hb dX5_sharedOf_58 rfl (lv_at hl 2 rfl) ?_
        refine lv_iload_n hx hb dX5_sharedOf_59 rfl (lv_at hl 3 rfl) ?_
        refine lv_iconst (v := 1) hx hb dX5_sharedOf_60 (by decide) ?_
        refine lv_iload_n hx hb dX5_sharedOf_61 rfl (lv_at hl 4 rfl) ?_
        refine lv_ishl hx hb dX5_sharedOf_62 ?_
        refine lv_iconst (v := (-1)) hx hb dX5_sharedOf_63 (by decide) ?_
        refine lv_ixor hx hb dX5_sharedOf_64 ?_
        refine lv_iand hx hb dX5_sharedOf_65 ?_
        refine lv_iload hx hb dX5_sharedOf_66 (lv_at hl 1 rfl) ?_
        refine lv_iload hx hb dX5_sharedOf_68 (lv_at hl 0 rfl) ?_
        obtain ⟨x18, h19, h12⟩ := bd_s h12
        refine cR_V (As := [.int (y1 &&& (((1 : Int32) <<< (y2 &&& 31)) ^^^ (-1))), .int (z3.2 - z3.2 / 16 * 16), .int (z3.2 / 16)]) (rest := [.int z3.1]) (n := 3) (v := .int x18) hx hb hml hown hts hK hN hl.1 (c_X5_ownerOf l D k a M (y1 &&& (((1 : Int32) <<< (y2 &&& 31)) ^^^ (-1))) (z3.2 - z3.2 / 16 * 16) (z3.2 / 16) x18 h19) gX5_sharedOf_X5_ownerOf rfl (by decide +kernel) ⟨⟨rfl, rfl⟩, by decide, by decide⟩ hP 0 5 rfl rfl rfl rfl rfl (Nat.le_of_ble_eq_true rfl) dX5_sharedOf_70 ⟨Nat.zero_le _, Nat.zero_le _⟩ ?_
        refine lv_iload_n hx hb dX5_sharedOf_73 rfl (lv_at hl 5 rfl) ?_
        refine lv_icmp_ne (tgt := 81) hx hb dX5_sharedOf_74 (by decide) (fun c20 => ?_) (fun c20 => ?_)
        · have h12 := if_f h12 c20
          refine lv_iconst (v := 0) hx hb dX5_sharedOf_81 (by decide) ?_
          obtain rfl := Option.some.inj h12
          exact K13
        · have h12 := if_t h12 c20
          refine lv_iconst (v := 1) hx hb dX5_sharedOf_77 (by decide) ?_
          refine lv_goto (tgt := 82) hx hb dX5_sharedOf_78 (by decide) ?_
          obtain rfl := Option.some.inj h12
          exact K13

abbrev rm_X5_sharedWater : Room := { frames := 4, cells := 0, slots := 0, locals := 97 }
def f_X5_sharedWater_L12 (M : ModelV) (y1 : Int32) (y2 : Int32) (y3 : Int32) (z : Int32 × Int32) : Option ((Int32 × Int32) ⊕ (Int32)) := if M.2.2.1 ≤ z.2 then (some (.inr z.1)) else ((if z.2 = y2 then (some 0) else ((f_X5_has y3 z.2).bind (fun x8 => if (b2i x8) = 0 then (some 0) else ((f_X5_sharedOf M y3 y2 z.2).bind (fun x11 => gd (ix ((64 * z.2) + y1) 512) (some (x11 * (M.2.2.2.2.2.2.2.1 (((64 * z.2) + y1) : Int32).toNatClampNeg))))))) : Option (Int32)).bind (fun x4 => some (.inl ((z.1 + x4), (z.2 + 1)))))
def f_X5_sharedWater (M : ModelV) (y1 : Int32) (y2 : Int32) : Option (Int32) := (f_X5_workingOn M y1).bind (fun x1 => (lp (f_X5_sharedWater_L12 M y1 y2 x1) fu (0, 0)).bind (fun x3 => some x3))
set_option maxHeartbeats 4000000 in
set_option maxRecDepth 100000 in
theorem c_X5_sharedWater (l : Launch) (D : va_G) (k : Nat → ClassId) (a : Nat → Nat) (M : ModelV) (y1 : Int32) (y2 : Int32) (r : Int32) (h : f_X5_sharedWater M y1 y2 = some r) : Met l yX5_sharedWater wsX5_sharedWater rm_X5_sharedWater (va_Pc [.ref (a 0), .int y1, .int y2] (RB D k (modelW k a M))) (QR (some (.int r))) 0 0 (fun _ => False) := by
  refine met_Ri (by decide) rfl (Nat.le_of_ble_eq_true rfl) ?_
  intro p e s m below meth c Q args ls hx hb hml hown hts hP hK hN hl hQ
  have hl : lv_has ls 6 [(0, .ref (a 0)), (1, .int y1), (2, .int y2)] := hl
  have hown : s.vm.findClass RX5 = some m.cls := hown
  unfold f_X5_sharedWater at h
  have hiRX5 : ∀ w ∈ u_ws RX5 TX5 19, w ∈ wsX5_sharedWater := by decide +kernel
  have hf53 := hts (.fieldLink RX5 53 "RainCellsModel" "many" "I") (by decide +kernel)
  have hf29 := hts (.fieldLink RX5 29 "RainCellsModel" "readings" "[I") (by decide +kernel)
  refine lv_aload_n hx hb dX5_sharedWater_0 rfl (lv_at hl 0 rfl) ?_
  refine lv_iload_n hx hb dX5_sharedWater_1 rfl (lv_at hl 1 rfl) ?_
  obtain ⟨x1, h2, h⟩ := bd_s h
  refine cR_V (As := [.int y1]) (rest := []) (n := 1) (v := .int x1) hx hb hml hown hts hK hN hl.1 (c_X5_workingOn l D k a M y1 x1 h2) gX5_sharedWater_X5_workingOn rfl (by decide +kernel) ⟨⟨rfl, rfl⟩, by decide, by decide⟩ hP 0 5 rfl rfl rfl rfl rfl (Nat.le_of_ble_eq_true rfl) dX5_sharedWater_2 ⟨Nat.zero_le _, Nat.zero_le _⟩ ?_
  refine lv_istore_n (lv' := [(3, .int x1), (0, .ref (a 0)), (1, .int y1), (2, .int y2)]) hx hb dX5_sharedWater_5 rfl hl (by decide) rfl (fun ls hl => ?_)
  refine lv_iconst (v := 0) hx hb dX5_sharedWater_6 (by decide) ?_
  refine lv_istore (lv' := [(4, .int 0), (3, .int x1), (0, .ref (a 0)), (1, .int y1), (2, .int y2)]) hx hb dX5_sharedWater_7 hl (by decide) rfl (fun ls hl => ?_)
  refine lv_iconst (v := 0) hx hb dX5_sharedWater_9 (by decide) ?_
  refine lv_istore (lv' := [(5, .int 0), (4, .int 0), (3, .int x1), (0, .ref (a 0)), (1, .int y1), (2, .int y2)]) hx hb dX5_sharedWater_10 hl (by decide) rfl (fun ls hl => ?_)
  obtain ⟨x3, h4, h⟩ := bd_s h
  have K21 : ∀ (ls : Array Slot), lv_has ls 6 [(4, .int x3)] → W p l e rm_X5_sharedWater s m args below meth c s.heap [] 0 0 Q (F0 m 72 ls []) := by
    intro ls hl
    refine lv_iload hx hb dX5_sharedWater_72 (lv_at hl 0 rfl) ?_
    obtain rfl := Option.some.inj h
    exact hQ _ _ dX5_sharedWater_74
  refine lp_W (P := fun z5 => ∀ (ls : Array Slot), lv_has ls 6 [(0, .ref (a 0)), (1, .int y1), (2, .int y2), (3, .int x1), (4, .int z5.1), (5, .int z5.2)] → W p l e rm_X5_sharedWater s m args below meth c s.heap [] 0 0 Q (F0 m 12 ls [])) (E := fun x3 => ∀ (ls : Array Slot), lv_has ls 6 [(4, .int x3)] → W p l e rm_X5_sharedWater s m args below meth c s.heap [] 0 0 Q (F0 m 72 ls [])) (fun z5 xx7 hB6 kI8 kE9 => ?_) _ _ _ h4 K21 ls (lv_sub hl [3, 4, 5, 2, 1, 0] rfl)
  intro ls hl
  unfold f_X5_sharedWater_L12 at hB6
  refine lv_iload hx hb dX5_sharedWater_12 (lv_at hl 5 rfl) ?_
  refine lv_aload_n hx hb dX5_sharedWater_14 rfl (lv_at hl 0 rfl) ?_
  refine va_get (D := D) (ci := 5) (v := .int M.2.2.1) (C := RX5) (T := TX5) (N := 19) hx hb hts hiRX5 hown hK hP 0 rfl rfl 2 (by decide) hf53 (fun _ h9 => h9) rfl dX5_sharedWater_15 ?_
  refine lv_icmp_ge (tgt := 72) hx hb dX5_sharedWater_18 (by decide) (fun c10 => ?_) (fun c10 => ?_)
  · have hB6 := if_t hB6 c10
    exact kE9 _ (Option.some.inj hB6).symm ls (lv_sub hl [4] rfl)
  · have hB6 := if_f hB6 c10
    refine lv_iload hx hb dX5_sharedWater_21 (lv_at hl 4 rfl) ?_
    refine lv_iload hx hb dX5_sharedWater_23 (lv_at hl 5 rfl) ?_
    refine lv_iload_n hx hb dX5_sharedWater_25 rfl (lv_at hl 2 rfl) ?_
    obtain ⟨x11, h12, hB6⟩ := bd_s hB6
    have K13 : W p l e rm_X5_sharedWater s m args below meth c s.heap [] 0 0 Q (F0 m 63 ls [.int x11, .int z5.1]) := by
      refine lv_iadd hx hb dX5_sharedWater_63 ?_
      refine lv_istore (lv' := [(4, .int (z5.1 + x11)), (0, .ref (a 0)), (1, .int y1), (2, .int y2), (3, .int x1), (5, .int z5.2)]) hx hb dX5_sharedWater_64 hl (by decide) rfl (fun ls hl => ?_)
      refine lv_iinc (v := (z5.2 + 1)) (lv' := [(5, .int (z5.2 + 1)), (4, .int (z5.1 + x11)), (0, .ref (a 0)), (1, .int y1), (2, .int y2), (3, .int x1)]) hx hb dX5_sharedWater_66 hl (k := 5) rfl rfl (by decide) rfl (fun ls hl => ?_)
      refine lv_goto (tgt := 12) hx hb dX5_sharedWater_69 (by decide) ?_
      exact kI8 _ (Option.some.inj hB6).symm ls (lv_sub hl [2, 3, 4, 5, 1, 0] rfl)
    refine lv_icmp_eq (tgt := 62) hx hb dX5_sharedWater_26 (by decide) (fun c14 => ?_) (fun c14 => ?_)
    · have h12 := if_t h12 c14
      refine lv_iconst (v := 0) hx hb dX5_sharedWater_62 (by decide) ?_
      obtain rfl := Option.some.inj h12
      exact K13
    · have h12 := if_f h12 c14
      refine lv_iload_n hx hb dX5_sharedWater_29 rfl (lv_at hl 3 rfl) ?_
      refine lv_iload hx hb dX5_sharedWater_30 (lv_at hl 5 rfl) ?_
      obtain ⟨x15, h16, h12⟩ := bd_s h12
      refine cR_S (As := [.int x1, .int z5.2]) (rest := [.int z5.1]) (n := 2) (v := .int (b2i x15)) hx hb hml hown hts hK hN hl.1 (c_X5_has l D k x1 z5.2 x15 h16) gX5_sharedWater_X5_has rfl (by decide +kernel) ⟨⟨rfl, rfl⟩, by decide, by decide⟩ va_P_nil rfl rfl (Nat.le_of_ble_eq_true rfl) dX5_sharedWater_32 ⟨Nat.zero_le _, Nat.zero_le _⟩ ?_
      refine lv_if_eq (tgt := 62) hx hb dX5_sharedWater_35 (by decide) (fun c17 => ?_) (fun c17 => ?_)
      · have h12 := if_t h12 c17
        refine lv_iconst (v := 0) hx hb dX5_sharedWater_62 (by decide) ?_
        obtain rfl := Option.some.inj h12
        exact K13
      · have h12 := if_f h12 c17
        refine lv_aload_n hx hb dX5_sharedWater_38 rfl (lv_at hl 0 rfl) ?_
        refine lv_iload_n hx hb dX5_sharedWater_39 rfl (lv_at hl 3 rfl) ?_
        refine lv_iload_n hx hb dX5_sharedWater_40 rfl (lv_at hl 2 rfl) ?_
        refine lv_iload hx hb dX5_sharedWater_41 (lv_at hl 5 rfl) ?_
        obtain ⟨x18, h19, h12⟩ := bd_s h12
        refine cR_V (As := [.int x1, .int y2, .int z5.2]) (rest := [.int z5.1]) (n := 3) (v := .int x18) hx hb hml hown hts hK hN hl.1 (c_X5_sharedOf l D k a M x1 y2 z5.2 x18 h19) gX5_sharedWater_X5_sharedOf rfl (by decide +kernel) ⟨⟨rfl, rfl⟩, by decide, by decide⟩ hP 0 5 rfl rfl rfl rfl rfl (Nat.le_of_ble_eq_true rfl) dX5_sharedWater_43 ⟨Nat.zero_le _, Nat.zero_le _⟩ ?_
        refine lv_aload_n hx hb dX5_sharedWater_46 rfl (lv_at hl 0 rfl) ?_
        refine va_get (D := D) (ci := 5) (v := .ref (a 7)) (C := RX5) (T := TX5) (N := 19) hx hb hts hiRX5 hown hK hP 0 rfl rfl 7 (by decide) hf29 (fun _ h9 => h9) rfl dX5_sharedWater_47 ?_
        refine lv_bipush (v := 64) hx hb dX5_sharedWater_50 (by decide) ?_
        refine lv_iload hx hb dX5_sharedWater_52 (lv_at hl 5 rfl) ?_
        refine lv_imul hx hb dX5_sharedWater_54 ?_
        refine lv_iload_n hx hb dX5_sharedWater_55 rfl (lv_at hl 1 rfl) ?_
        refine lv_iadd hx hb dX5_sharedWater_56 ?_
        obtain ⟨c20, h12⟩ := gd_s h12
        refine va_iald (D := D) hx hb hK hP 7 0 rfl rfl (ix_in c20) dX5_sharedWater_57 ?_
        refine lv_imul hx hb dX5_sharedWater_58 ?_
        refine lv_goto (tgt := 63) hx hb dX5_sharedWater_59 (by decide) ?_
        obtain rfl := Option.some.inj h12
        exact K13

abbrev rm_X5_owner : Room := { frames := 3, cells := 0, slots := 0, locals := 70 }
def f_X5_owner (M : ModelV) (y1 : Int32) (y2 : Int32) (y3 : Int32) : Option (Int32 × ModelV) := (f_X5_isDay y1).bind (fun x1 => if (b2i x1) = 0 then (some ((-2), M)) else ((f_X5_in y2 0 15).bind (fun x4 => if (b2i x4) = 0 then (some ((-2), M)) else ((f_X5_in y3 0 15).bind (fun x7 => if (b2i x7) = 0 then (some ((-2), M)) else ((f_X5_isPlot M y2 y3).bind (fun x10 => if (b2i x10) = 0 then (some ((-5), M)) else ((f_X5_workingOn M y1).bind (fun x13 => (f_X5_lookUp M x13).bind (fun x15 => (f_X5_ownerOf x15 x13 y2 y3).bind (fun x17 => some (x17, x15))))))))))))
set_option maxHeartbeats 4000000 in
set_option maxRecDepth 100000 in
theorem c_X5_owner (l : Launch) (D : va_G) (k : Nat → ClassId) (a : Nat → Nat) (M : ModelV) (y1 : Int32) (y2 : Int32) (y3 : Int32) (r : Int32 × ModelV) (h : f_X5_owner M y1 y2 y3 = some r) : Met l yX5_owner wsX5_owner rm_X5_owner (va_Pc [.ref (a 0), .int y1, .int y2, .int y3] (MB D k (modelW k a M))) (QM D (modelW k a M) (modelW k a r.2) (some (.int r.1))) 0 0 (AD (modelW k a M)) := by
  refine met_Mi (by decide) rfl (Nat.le_of_ble_eq_true rfl) ?_
  intro p e s m below meth c Q args ls hx hb hml hown hts hP hK hN hD hl hQ
  have hl : lv_has ls 5 [(0, .ref (a 0)), (1, .int y1), (2, .int y2), (3, .int y3)] := hl
  have hown : s.vm.findClass RX5 = some m.cls := hown
  unfold f_X5_owner at h
  generalize AD (modelW k a M) = A0 at hD hQ
  have hS : va_S A0 s.heap s.heap [] := va_S.rf
  refine lv_iload_n hx hb dX5_owner_0 rfl (lv_at hl 1 rfl) ?_
  obtain ⟨x1, h2, h⟩ := bd_s h
  refine cR_S (As := [.int y1]) (rest := []) (n := 1) (v := .int (b2i x1)) hx hb hml hown hts hK hN hl.1 (c_X5_isDay l D k y1 x1 h2) gX5_owner_X5_isDay rfl (by decide +kernel) ⟨⟨rfl, rfl⟩, by decide, by decide⟩ va_P_nil rfl rfl (Nat.le_of_ble_eq_true rfl) dX5_owner_1 ⟨Nat.zero_le _, Nat.zero_le _⟩ ?_
  refine lv_if_eq (tgt := 27) hx hb dX5_owner_4 (by decide) (fun c3 => ?_) (fun c3 => ?_)
  · have h := if_t h c3
    refine lv_bipush (v := (-2)) hx hb dX5_owner_27 (by decide) ?_
    obtain rfl := Option.some.inj h
    exact hQ _ _ _ _ dX5_owner_29 hP hS
  · have h := if_f h c3
    refine lv_iload_n hx hb dX5_owner_7 rfl (lv_at hl 2 rfl) ?_
    refine lv_iconst (v := 0) hx hb dX5_owner_8 (by decide) ?_
    refine lv_bipush (v := 15) hx hb dX5_owner_9 (by decide) ?_
    obtain ⟨x4, h5, h⟩ := bd_s h
    refine cR_S (As := [.int y2, .int 0, .int 15]) (rest := []) (n := 3) (v := .int (b2i x4)) hx hb hml hown hts hK hN hl.1 (c_X5_in l D k y2 0 15 x4 h5) gX5_owner_X5_in rfl (by decide +kernel) ⟨⟨rfl, rfl⟩, by decide, by decide⟩ va_P_nil rfl rfl (Nat.le_of_ble_eq_true rfl) dX5_owner_11 ⟨Nat.zero_le _, Nat.zero_le _⟩ ?_
    refine lv_if_eq (tgt := 27) hx hb dX5_owner_14 (by decide) (fun c6 => ?_) (fun c6 => ?_)
    · have h := if_t h c6
      refine lv_bipush (v := (-2)) hx hb dX5_owner_27 (by decide) ?_
      obtain rfl := Option.some.inj h
      exact hQ _ _ _ _ dX5_owner_29 hP hS
    · have h := if_f h c6
      refine lv_iload_n hx hb dX5_owner_17 rfl (lv_at hl 3 rfl) ?_
      refine lv_iconst (v := 0) hx hb dX5_owner_18 (by decide) ?_
      refine lv_bipush (v := 15) hx hb dX5_owner_19 (by decide) ?_
      obtain ⟨x7, h8, h⟩ := bd_s h
      refine cR_S (As := [.int y3, .int 0, .int 15]) (rest := []) (n := 3) (v := .int (b2i x7)) hx hb hml hown hts hK hN hl.1 (c_X5_in l D k y3 0 15 x7 h8) gX5_owner_X5_in rfl (by decide +kernel) ⟨⟨rfl, rfl⟩, by decide, by decide⟩ va_P_nil rfl rfl (Nat.le_of_ble_eq_true rfl) dX5_owner_21 ⟨Nat.zero_le _, Nat.zero_le _⟩ ?_
      refine lv_if_ne (tgt := 30) hx hb dX5_owner_24 (by decide) (fun c9 => ?_) (fun c9 => ?_)
      · have h := if_f h c9
        refine lv_aload_n hx hb dX5_owner_30 rfl (lv_at hl 0 rfl) ?_
        refine lv_iload_n hx hb dX5_owner_31 rfl (lv_at hl 2 rfl) ?_
        refine lv_iload_n hx hb dX5_owner_32 rfl (lv_at hl 3 rfl) ?_
        obtain ⟨x10, h11, h⟩ := bd_s h
        refine cR_V (As := [.int y2, .int y3]) (rest := []) (n := 2) (v := .int (b2i x10)) hx hb hml hown hts hK hN hl.1 (c_X5_isPlot l D k a M y2 y3 x10 h11) gX5_owner_X5_isPlot rfl (by decide +kernel) ⟨⟨rfl, rfl⟩, by decide, by decide⟩ hP 0 5 rfl rfl rfl rfl rfl (Nat.le_of_ble_eq_true rfl) dX5_owner_33 ⟨Nat.zero_le _, Nat.zero_le _⟩ ?_
        refine lv_if_ne (tgt := 42) hx hb dX5_owner_36 (by decide) (fun c12 => ?_) (fun c12 => ?_)
        · have h := if_f h c12
          refine lv_aload_n hx hb dX5_owner_42 rfl (lv_at hl 0 rfl) ?_
          refine lv_iload_n hx hb dX5_owner_43 rfl (lv_at hl 1 rfl) ?_
          obtain ⟨x13, h14, h⟩ := bd_s h
          refine cR_V (As := [.int y1]) (rest := []) (n := 1) (v := .int x13) hx hb hml hown hts hK hN hl.1 (c_X5_workingOn l D k a M y1 x13 h14) gX5_owner_X5_workingOn rfl (by decide +kernel) ⟨⟨rfl, rfl⟩, by decide, by decide⟩ hP 0 5 rfl rfl rfl rfl rfl (Nat.le_of_ble_eq_true rfl) dX5_owner_44 ⟨Nat.zero_le _, Nat.zero_le _⟩ ?_
          refine lv_istore (lv' := [(4, .int x13), (0, .ref (a 0)), (1, .int y1), (2, .int y2), (3, .int y3)]) hx hb dX5_owner_47 hl (by decide) rfl (fun ls hl => ?_)
          refine lv_aload_n hx hb dX5_owner_49 rfl (lv_at hl 1 rfl) ?_
          refine lv_iload hx hb dX5_owner_50 (lv_at hl 0 rfl) ?_
          obtain ⟨x15, h16, h⟩ := bd_s h
          refine cM_V (As := [.int x13]) (rest := []) (n := 1) (ov := none) (wc := modelW k a M) (wc' := modelW k a x15) (w1 := modelW k a x15) hx hb hml hown hts hK hN hl.1 hP hD hS (Sp.self (md_ad k a _) (md_ad k a _)) (c_X5_lookUp l D k a M x13 x15 h16) gX5_owner_X5_lookUp rfl (by decide +kernel) ⟨⟨rfl, rfl⟩, by decide, by decide⟩ 0 5 rfl rfl rfl rfl rfl (Nat.le_of_ble_eq_true rfl) dX5_owner_52 ⟨Nat.zero_le _, Nat.zero_le _⟩ (fun H locs hP hD hS => ?_)
          show W p l e rm_X5_owner s m args below meth c H locs 0 0 Q (F0 m 55 ls [])
          refine lv_aload_n hx hb dX5_owner_55 rfl (lv_at hl 1 rfl) ?_
          refine lv_iload hx hb dX5_owner_56 (lv_at hl 0 rfl) ?_
          refine lv_iload_n hx hb dX5_owner_58 rfl (lv_at hl 3 rfl) ?_
          refine lv_iload_n hx hb dX5_owner_59 rfl (lv_at hl 4 rfl) ?_
          obtain ⟨x17, h18, h⟩ := bd_s h
          refine cR_V (As := [.int x13, .int y2, .int y3]) (rest := []) (n := 3) (v := .int x17) hx hb hml hown hts hK hN hl.1 (c_X5_ownerOf l D k a x15 x13 y2 y3 x17 h18) gX5_owner_X5_ownerOf rfl (by decide +kernel) ⟨⟨rfl, rfl⟩, by decide, by decide⟩ hP 0 5 rfl rfl rfl rfl rfl (Nat.le_of_ble_eq_true rfl) dX5_owner_60 ⟨Nat.zero_le _, Nat.zero_le _⟩ ?_
          obtain rfl := Option.some.inj h
          exact hQ _ _ _ _ dX5_owner_63 hP hS
        · have h := if_t h c12
          refine lv_bipush (v := (-5)) hx hb dX5_owner_39 (by decide) ?_
          obtain rfl := Option.some.inj h
          exact hQ _ _ _ _ dX5_owner_41 hP hS
      · have h := if_t h c9
        refine lv_bipush (v := (-2)) hx hb dX5_owner_27 (by decide) ?_
        obtain rfl := Option.some.inj h
        exact hQ _ _ _ _ dX5_owner_29 hP hS

abbrev rm_X5_cell : Room := { frames := 4, cells := 0, slots := 0, locals := 94 }
def f_X5_cell (M : ModelV) (y1 : Int32) (y2 : Int32) (y3 : Int32) : Option (Int32 × ModelV) := (f_X5_isGauge M y2).bind (fun x1 => if (b2i x1) = 0 then (some ((-1), M)) else ((f_X5_isDay y1).bind (fun x4 => if (b2i x4) = 0 then (some ((-2), M)) else ((f_X5_in y3 0 3).bind (fun x7 => if (b2i x7) = 0 then (some ((-2), M)) else ((f_X5_workingOn M y1).bind (fun x10 => (f_X5_lookUp M x10).bind (fun x12 => (f_X5_size x12 x10 y2).bind (fun x14 => if y3 = 0 then (some (x14, x12)) else (if y3 = 3 then ((f_X5_farOf x12 x10 y2).bind (fun x23 => some (x23, x12))) else (if x14 = 0 then (some ((y3 - 1), x12)) else ((f_X5_plots x12).bind (fun x19 => (f_X5_part x14 x19 (y3 - 1)).bind (fun x21 => some (x21, x12)))))))))))))))
set_option maxHeartbeats 4000000 in
set_option maxRecDepth 100000 in
theorem c_X5_cell (l : Launch) (D : va_G) (k : Nat → ClassId) (a : Nat → Nat) (M : ModelV) (y1 : Int32) (y2 : Int32) (y3 : Int32) (r : Int32 × ModelV) (h : f_X5_cell M y1 y2 y3 = some r) : Met l yX5_cell wsX5_cell rm_X5_cell (va_Pc [.ref (a 0), .int y1, .int y2, .int y3] (MB D k (modelW k a M))) (QM D (modelW k a M) (modelW k a r.2) (some (.int r.1))) 0 0 (AD (modelW k a M)) := by
  refine met_Mi (by decide) rfl (Nat.le_of_ble_eq_true rfl) ?_
  intro p e s m below meth c Q args ls hx hb hml hown hts hP hK hN hD hl hQ
  have hl : lv_has ls 6 [(0, .ref (a 0)), (1, .int y1), (2, .int y2), (3, .int y3)] := hl
  have hown : s.vm.findClass RX5 = some m.cls := hown
  unfold f_X5_cell at h
  generalize AD (modelW k a M) = A0 at hD hQ
  have hS : va_S A0 s.heap s.heap [] := va_S.rf
  refine lv_aload_n hx hb dX5_cell_0 rfl (lv_at hl 0 rfl) ?_
  refine lv_iload_n hx hb dX5_cell_1 rfl (lv_at hl 2 rfl) ?_
  obtain ⟨x1, h2, h⟩ := bd_s h
  refine cR_V (As := [.int y2]) (rest := []) (n := 1) (v := .int (b2i x1)) hx hb hml hown hts hK hN hl.1 (c_X5_isGauge l D k a M y2 x1 h2) gX5_cell_X5_isGauge rfl (by decide +kernel) ⟨⟨rfl, rfl⟩, by decide, by decide⟩ hP 0 5 rfl rfl rfl rfl rfl (Nat.le_of_ble_eq_true rfl) dX5_cell_2 ⟨Nat.zero_le _, Nat.zero_le _⟩ ?_
  refine lv_if_ne (tgt := 10) hx hb dX5_cell_5 (by decide) (fun c3 => ?_) (fun c3 => ?_)
  · have h := if_f h c3
    refine lv_iload_n hx hb dX5_cell_10 rfl (lv_at hl 1 rfl) ?_
    obtain ⟨x4, h5, h⟩ := bd_s h
    refine cR_S (As := [.int y1]) (rest := []) (n := 1) (v := .int (b2i x4)) hx hb hml hown hts hK hN hl.1 (c_X5_isDay l D k y1 x4 h5) gX5_cell_X5_isDay rfl (by decide +kernel) ⟨⟨rfl, rfl⟩, by decide, by decide⟩ va_P_nil rfl rfl (Nat.le_of_ble_eq_true rfl) dX5_cell_11 ⟨Nat.zero_le _, Nat.zero_le _⟩ ?_
    refine lv_if_eq (tgt := 26) hx hb dX5_cell_14 (by decide) (fun c6 => ?_) (fun c6 => ?_)
    · have h := if_t h c6
      refine lv_bipush (v := (-2)) hx hb dX5_cell_26 (by decide) ?_
      obtain rfl := Option.some.inj h
      exact hQ _ _ _ _ dX5_cell_28 hP hS
    · have h := if_f h c6
      refine lv_iload_n hx hb dX5_cell_17 rfl (lv_at hl 3 rfl) ?_
      refine lv_iconst (v := 0) hx hb dX5_cell_18 (by decide) ?_
      refine lv_iconst (v := 3) hx hb dX5_cell_19 (by decide) ?_
      obtain ⟨x7, h8, h⟩ := bd_s h
      refine cR_S (As := [.int y3, .int 0, .int 3]) (rest := []) (n := 3) (v := .int (b2i x7)) hx hb hml hown hts hK hN hl.1 (c_X5_in l D k y3 0 3 x7 h8) gX5_cell_X5_in rfl (by decide +kernel) ⟨⟨rfl, rfl⟩, by decide, by decide⟩ va_P_nil rfl rfl (Nat.le_of_ble_eq_true rfl) dX5_cell_20 ⟨Nat.zero_le _, Nat.zero_le _⟩ ?_
      refine lv_if_ne (tgt := 29) hx hb dX5_cell_23 (by decide) (fun c9 => ?_) (fun c9 => ?_)
      · have h := if_f h c9
        refine lv_aload_n hx hb dX5_cell_29 rfl (lv_at hl 0 rfl) ?_
        refine lv_iload_n hx hb dX5_cell_30 rfl (lv_at hl 1 rfl) ?_
        obtain ⟨x10, h11, h⟩ := bd_s h
        refine cR_V (As := [.int y1]) (rest := []) (n := 1) (v := .int x10) hx hb hml hown hts hK hN hl.1 (c_X5_workingOn l D k a M y1 x10 h11) gX5_cell_X5_workingOn rfl (by decide +kernel) ⟨⟨rfl, rfl⟩, by decide, by decide⟩ hP 0 5 rfl rfl rfl rfl rfl (Nat.le_of_ble_eq_true rfl) dX5_cell_31 ⟨Nat.zero_le _, Nat.zero_le _⟩ ?_
        refine lv_istore (lv' := [(4, .int x10), (0, .ref (a 0)), (1, .int y1), (2, .int y2), (3, .int y3)]) hx hb dX5_cell_34 hl (by decide) rfl (fun ls hl => ?_)
        refine lv_aload_n hx hb dX5_cell_36 rfl (lv_at hl 1 rfl) ?_
        refine lv_iload hx hb dX5_cell_37 (lv_at hl 0 rfl) ?_
        obtain ⟨x12, h13, h⟩ := bd_s h
        refine cM_V (As := [.int x10]) (rest := []) (n := 1) (ov := none) (wc := modelW k a M) (wc' := modelW k a x12) (w1 := modelW k a x12) hx hb hml hown hts hK hN hl.1 hP hD hS (Sp.self (md_ad k a _) (md_ad k a _)) (c_X5_lookUp l D k a M x10 x12 h13) gX5_cell_X5_lookUp rfl (by decide +kernel) ⟨⟨rfl, rfl⟩, by decide, by decide⟩ 0 5 rfl rfl rfl rfl rfl (Nat.le_of_ble_eq_true rfl) dX5_cell_39 ⟨Nat.zero_le _, Nat.zero_le _⟩ (fun H locs hP hD hS => ?_)
        show W p l e rm_X5_cell s m args below meth c H locs 0 0 Q (F0 m 42 ls [])
        refine lv_aload_n hx hb dX5_cell_42 rfl (lv_at hl 1 rfl) ?_
        refine lv_iload hx hb dX5_cell_43 (lv_at hl 0 rfl) ?_
        refine lv_iload_n hx hb dX5_cell_45 rfl (lv_at hl 3 rfl) ?_
        obtain ⟨x14, h15, h⟩ := bd_s h
        refine cR_V (As := [.int x10, .int y2]) (rest := []) (n := 2) (v := .int x14) hx hb hml hown hts hK hN hl.1 (c_X5_size l D k a x12 x10 y2 x14 h15) gX5_cell_X5_size rfl (by decide +kernel) ⟨⟨rfl, rfl⟩, by decide, by decide⟩ hP 0 5 rfl rfl rfl rfl rfl (Nat.le_of_ble_eq_true rfl) dX5_cell_46 ⟨Nat.zero_le _, Nat.zero_le _⟩ ?_
        refine lv_istore (lv' := [(5, .int x14), (4, .int x10), (0, .ref (a 0)), (1, .int y1), (2, .int y2), (3, .int y3)]) hx hb dX5_cell_49 hl (by decide) rfl (fun ls hl => ?_)
        refine lv_iload_n hx hb dX5_cell_51 rfl (lv_at hl 5 rfl) ?_
        refine lv_if_ne (tgt := 58) hx hb dX5_cell_52 (by decide) (fun c16 => ?_) (fun c16 => ?_)
        · have h := if_f h c16
          refine lv_iload_n hx hb dX5_cell_58 rfl (lv_at hl 5 rfl) ?_
          refine lv_iconst (v := 3) hx hb dX5_cell_59 (by decide) ?_
          refine lv_icmp_ne (tgt := 71) hx hb dX5_cell_60 (by decide) (fun c17 => ?_) (fun c17 => ?_)
          · have h := if_f h c17
            refine lv_iload hx hb dX5_cell_71 (lv_at hl 0 rfl) ?_
            refine lv_if_ne (tgt := 82) hx hb dX5_cell_73 (by decide) (fun c18 => ?_) (fun c18 => ?_)
            · have h := if_f h c18
              refine lv_iload hx hb dX5_cell_82 (lv_at hl 0 rfl) ?_
              refine lv_aload_n hx hb dX5_cell_84 rfl (lv_at hl 2 rfl) ?_
              obtain ⟨x19, h20, h⟩ := bd_s h
              refine cR_V (As := []) (rest := [.int x14]) (n := 0) (v := .int x19) hx hb hml hown hts hK hN hl.1 (c_X5_plots l D k a x12 x19 h20) gX5_cell_X5_plots rfl (by decide +kernel) ⟨⟨rfl, rfl⟩, by decide, by decide⟩ hP 0 5 rfl rfl rfl rfl rfl (Nat.le_of_ble_eq_true rfl) dX5_cell_85 ⟨Nat.zero_le _, Nat.zero_le _⟩ ?_
              refine lv_iload_n hx hb dX5_cell_88 rfl (lv_at hl 5 rfl) ?_
              refine lv_iconst (v := 1) hx hb dX5_cell_89 (by decide) ?_
              refine lv_isub hx hb dX5_cell_90 ?_
              obtain ⟨x21, h22, h⟩ := bd_s h
              refine cR_S (As := [.int x14, .int x19, .int (y3 - 1)]) (rest := []) (n := 3) (v := .int x21) hx hb hml hown hts hK hN hl.1 (c_X5_part l D k x14 x19 (y3 - 1) x21 h22) gX5_cell_X5_part rfl (by decide +kernel) ⟨⟨rfl, rfl⟩, by decide, by decide⟩ va_P_nil rfl rfl (Nat.le_of_ble_eq_true rfl) dX5_cell_91 ⟨Nat.zero_le _, Nat.zero_le _⟩ ?_
              obtain rfl := Option.some.inj h
              exact hQ _ _ _ _ dX5_cell_94 hP hS
            · have h := if_t h c18
              refine lv_iload_n hx hb dX5_cell_76 rfl (lv_at hl 5 rfl) ?_
              refine lv_iconst (v := 1) hx hb dX5_cell_77 (by decide) ?_
              refine lv_isub hx hb dX5_cell_78 ?_
              refine lv_goto (tgt := 94) hx hb dX5_cell_79 (by decide) ?_
              obtain rfl := Option.some.inj h
              exact hQ _ _ _ _ dX5_cell_94 hP hS
          · have h := if_t h c17
            refine lv_aload_n hx hb dX5_cell_63 rfl (lv_at hl 2 rfl) ?_
            refine lv_iload hx hb dX5_cell_64 (lv_at hl 1 rfl) ?_
            refine lv_iload_n hx hb dX5_cell_66 rfl (lv_at hl 4 rfl) ?_
            obtain ⟨x23, h24, h⟩ := bd_s h
            refine cR_V (As := [.int x10, .int y2]) (rest := []) (n := 2) (v := .int x23) hx hb hml hown hts hK hN hl.1 (c_X5_farOf l D k a x12 x10 y2 x23 h24) gX5_cell_X5_farOf rfl (by decide +kernel) ⟨⟨rfl, rfl⟩, by decide, by decide⟩ hP 0 5 rfl rfl rfl rfl rfl (Nat.le_of_ble_eq_true rfl) dX5_cell_67 ⟨Nat.zero_le _, Nat.zero_le _⟩ ?_
            obtain rfl := Option.some.inj h
            exact hQ _ _ _ _ dX5_cell_70 hP hS
        · have h := if_t h c16
          refine lv_iload hx hb dX5_cell_55 (lv_at hl 0 rfl) ?_
          obtain rfl := Option.some.inj h
          exact hQ _ _ _ _ dX5_cell_57 hP hS
      · have h := if_t h c9
        refine lv_bipush (v := (-2)) hx hb dX5_cell_26 (by decide) ?_
        obtain rfl := Option.some.inj h
        exact hQ _ _ _ _ dX5_cell_28 hP hS
  · have h := if_t h c3
    refine lv_iconst (v := (-1)) hx hb dX5_cell_8 (by decide) ?_
    obtain rfl := Option.some.inj h
    exact hQ _ _ _ _ dX5_cell_9 hP hS

abbrev rm_X5_border : Room := { frames := 6, cells := 0, slots := 0, locals := 142 }
def f_X5_border (M : ModelV) (y1 : Int32) (y2 : Int32) (y3 : Int32) : Option (Int32 × ModelV) := (f_X5_isGauge M y2).bind (fun x1 => if (b2i x1) = 0 then (some ((-1), M)) else ((f_X5_isGauge M y3).bind (fun x4 => if (b2i x4) = 0 then (some ((-1), M)) else ((f_X5_isDay y1).bind (fun x7 => if (b2i x7) = 0 then (some ((-2), M)) else ((f_X5_workingOn M y1).bind (fun x10 => (f_X5_lookUp M x10).bind (fun x12 => (if y2 = y3 then (some (-6)) else (some y3) : Option (Int32)).bind (fun x14 => (f_X5_sides x12 x10 y2 x14).bind (fun x17 => some (x17, x12)))))))))))
set_option maxHeartbeats 4000000 in
set_option maxRecDepth 100000 in
theorem c_X5_border (l : Launch) (D : va_G) (k : Nat → ClassId) (a : Nat → Nat) (M : ModelV) (y1 : Int32) (y2 : Int32) (y3 : Int32) (r : Int32 × ModelV) (h : f_X5_border M y1 y2 y3 = some r) : Met l yX5_border wsX5_border rm_X5_border (va_Pc [.ref (a 0), .int y1, .int y2, .int y3] (MB D k (modelW k a M))) (QM D (modelW k a M) (modelW k a r.2) (some (.int r.1))) 0 0 (AD (modelW k a M)) := by
  refine met_Mi (by decide) rfl (Nat.le_of_ble_eq_true rfl) ?_
  intro p e s m below meth c Q args ls hx hb hml hown hts hP hK hN hD hl hQ
  have hl : lv_has ls 5 [(0, .ref (a 0)), (1, .int y1), (2, .int y2), (3, .int y3)] := hl
  have hown : s.vm.findClass RX5 = some m.cls := hown
  unfold f_X5_border at h
  generalize AD (modelW k a M) = A0 at hD hQ
  have hS : va_S A0 s.heap s.heap [] := va_S.rf
  refine lv_aload_n hx hb dX5_border_0 rfl (lv_at hl 0 rfl) ?_
  refine lv_iload_n hx hb dX5_border_1 rfl (lv_at hl 2 rfl) ?_
  obtain ⟨x1, h2, h⟩ := bd_s h
  refine cR_V (As := [.int y2]) (rest := []) (n := 1) (v := .int (b2i x1)) hx hb hml hown hts hK hN hl.1 (c_X5_isGauge l D k a M y2 x1 h2) gX5_border_X5_isGauge rfl (by decide +kernel) ⟨⟨rfl, rfl⟩, by decide, by decide⟩ hP 0 5 rfl rfl rfl rfl rfl (Nat.le_of_ble_eq_true rfl) dX5_border_2 ⟨Nat.zero_le _, Nat.zero_le _⟩ ?_
  refine lv_if_eq (tgt := 16) hx hb dX5_border_5 (by decide) (fun c3 => ?_) (fun c3 => ?_)
  · have h := if_t h c3
    refine lv_iconst (v := (-1)) hx hb dX5_border_16 (by decide) ?_
    obtain rfl := Option.some.inj h
    exact hQ _ _ _ _ dX5_border_17 hP hS
  · have h := if_f h c3
    refine lv_aload_n hx hb dX5_border_8 rfl (lv_at hl 0 rfl) ?_
    refine lv_iload_n hx hb dX5_border_9 rfl (lv_at hl 3 rfl) ?_
    obtain ⟨x4, h5, h⟩ := bd_s h
    refine cR_V (As := [.int y3]) (rest := []) (n := 1) (v := .int (b2i x4)) hx hb hml hown hts hK hN hl.1 (c_X5_isGauge l D k a M y3 x4 h5) gX5_border_X5_isGauge rfl (by decide +kernel) ⟨⟨rfl, rfl⟩, by decide, by decide⟩ hP 0 5 rfl rfl rfl rfl rfl (Nat.le_of_ble_eq_true rfl) dX5_border_10 ⟨Nat.zero_le _, Nat.zero_le _⟩ ?_
    refine lv_if_ne (tgt := 18) hx hb dX5_border_13 (by decide) (fun c6 => ?_) (fun c6 => ?_)
    · have h := if_f h c6
      refine lv_iload_n hx hb dX5_border_18 rfl (lv_at hl 1 rfl) ?_
      obtain ⟨x7, h8, h⟩ := bd_s h
      refine cR_S (As := [.int y1]) (rest := []) (n := 1) (v := .int (b2i x7)) hx hb hml hown hts hK hN hl.1 (c_X5_isDay l D k y1 x7 h8) gX5_border_X5_isDay rfl (by decide +kernel) ⟨⟨rfl, rfl⟩, by decide, by decide⟩ va_P_nil rfl rfl (Nat.le_of_ble_eq_true rfl) dX5_border_19 ⟨Nat.zero_le _, Nat.zero_le _⟩ ?_
      refine lv_if_ne (tgt := 28) hx hb dX5_border_22 (by decide) (fun c9 => ?_) (fun c9 => ?_)
      · have h := if_f h c9
        refine lv_aload_n hx hb dX5_border_28 rfl (lv_at hl 0 rfl) ?_
        refine lv_iload_n hx hb dX5_border_29 rfl (lv_at hl 1 rfl) ?_
        obtain ⟨x10, h11, h⟩ := bd_s h
        refine cR_V (As := [.int y1]) (rest := []) (n := 1) (v := .int x10) hx hb hml hown hts hK hN hl.1 (c_X5_workingOn l D k a M y1 x10 h11) gX5_border_X5_workingOn rfl (by decide +kernel) ⟨⟨rfl, rfl⟩, by decide, by decide⟩ hP 0 5 rfl rfl rfl rfl rfl (Nat.le_of_ble_eq_true rfl) dX5_border_30 ⟨Nat.zero_le _, Nat.zero_le _⟩ ?_
        refine lv_istore (lv' := [(4, .int x10), (0, .ref (a 0)), (1, .int y1), (2, .int y2), (3, .int y3)]) hx hb dX5_border_33 hl (by decide) rfl (fun ls hl => ?_)
        refine lv_aload_n hx hb dX5_border_35 rfl (lv_at hl 1 rfl) ?_
        refine lv_iload hx hb dX5_border_36 (lv_at hl 0 rfl) ?_
        obtain ⟨x12, h13, h⟩ := bd_s h
        refine cM_V (As := [.int x10]) (rest := []) (n := 1) (ov := none) (wc := modelW k a M) (wc' := modelW k a x12) (w1 := modelW k a x12) hx hb hml hown hts hK hN hl.1 hP hD hS (Sp.self (md_ad k a _) (md_ad k a _)) (c_X5_lookUp l D k a M x10 x12 h13) gX5_border_X5_lookUp rfl (by decide +kernel) ⟨⟨rfl, rfl⟩, by decide, by decide⟩ 0 5 rfl rfl rfl rfl rfl (Nat.le_of_ble_eq_true rfl) dX5_border_38 ⟨Nat.zero_le _, Nat.zero_le _⟩ (fun H locs hP hD hS => ?_)
        show W p l e rm_X5_border s m args below meth c H locs 0 0 Q (F0 m 41 ls [])
        refine lv_aload_n hx hb dX5_border_41 rfl (lv_at hl 1 rfl) ?_
        refine lv_iload hx hb dX5_border_42 (lv_at hl 0 rfl) ?_
        refine lv_iload_n hx hb dX5_border_44 rfl (lv_at hl 3 rfl) ?_
        refine lv_iload_n hx hb dX5_border_45 rfl (lv_at hl 3 rfl) ?_
        refine lv_iload_n hx hb dX5_border_46 rfl (lv_at hl 4 rfl) ?_
        obtain ⟨x14, h15, h⟩ := bd_s h
        have K16 : W p l e rm_X5_border s m args below meth c H locs 0 0 Q (F0 m 56 ls [.int x14, .int y2, .int x10, .ref (a 0)]) := by
          obtain ⟨x17, h18, h⟩ := bd_s h
          refine cR_V (As := [.int x10, .int y2, .int x14]) (rest := []) (n := 3) (v := .int x17) hx hb hml hown hts hK hN hl.1 (c_X5_sides l D k a x12 x10 y2 x14 x17 h18) gX5_border_X5_sides rfl (by decide +kernel) ⟨⟨rfl, rfl⟩, by decide, by decide⟩ hP 0 5 rfl rfl rfl rfl rfl (Nat.le_of_ble_eq_true rfl) dX5_border_56 ⟨Nat.zero_le _, Nat.zero_le _⟩ ?_
          obtain rfl := Option.some.inj h
          exact hQ _ _ _ _ dX5_border_59 hP hS
        refine lv_icmp_ne (tgt := 55) hx hb dX5_border_47 (by decide) (fun c19 => ?_) (fun c19 => ?_)
        · have h15 := if_f h15 c19
          refine lv_iload_n hx hb dX5_border_55 rfl (lv_at hl 4 rfl) ?_
          obtain rfl := Option.some.inj h15
          exact K16
        · have h15 := if_t h15 c19
          refine lv_bipush (v := (-6)) hx hb dX5_border_50 (by decide) ?_
          refine lv_goto (tgt := 56) hx hb dX5_border_52 (by decide) ?_
          obtain rfl := Option.some.inj h15
          exact K16
      · have h := if_t h c9
        refine lv_bipush (v := (-2)) hx hb dX5_border_25 (by decide) ?_
        obtain rfl := Option.some.inj h
        exact hQ _ _ _ _ dX5_border_27 hP hS
    · have h := if_t h c6
      refine lv_iconst (v := (-1)) hx hb dX5_border_16 (by decide) ?_
      obtain rfl := Option.some.inj h
      exact hQ _ _ _ _ dX5_border_17 hP hS

abbrev rm_X5_neighbours : Room := { frames := 6, cells := 0, slots := 0, locals := 142 }
def f_X5_neighbours_L37 (M : ModelV) (y2 : Int32) (y3 : Int32) (z : Int32 × Int32) : Option ((Int32 × Int32) ⊕ (Int32)) := if M.2.2.1 ≤ z.2 then (some (.inr z.1)) else ((if z.2 = y2 then (some 0) else ((f_X5_sides M y3 y2 z.2).bind (fun x16 => if x16 ≤ 0 then (some 0) else (some ((1 : Int32) <<< (z.2 &&& 31))))) : Option (Int32)).bind (fun x12 => some (.inl ((z.1 ||| x12), (z.2 + 1)))))
def f_X5_neighbours (M : ModelV) (y1 : Int32) (y2 : Int32) : Option (Int32 × ModelV) := (f_X5_isGauge M y2).bind (fun x1 => if (b2i x1) = 0 then (some ((-1), M)) else ((f_X5_isDay y1).bind (fun x4 => if (b2i x4) = 0 then (some ((-2), M)) else ((f_X5_workingOn M y1).bind (fun x7 => (f_X5_lookUp M x7).bind (fun x9 => (lp (f_X5_neighbours_L37 x9 y2 x7) fu (0, 0)).bind (fun x11 => some (x11, x9))))))))
set_option maxHeartbeats 4000000 in
set_option maxRecDepth 100000 in
theorem c_X5_neighbours (l : Launch) (D : va_G) (k : Nat → ClassId) (a : Nat → Nat) (M : ModelV) (y1 : Int32) (y2 : Int32) (r : Int32 × ModelV) (h : f_X5_neighbours M y1 y2 = some r) : Met l yX5_neighbours wsX5_neighbours rm_X5_neighbours (va_Pc [.ref (a 0), .int y1, .int y2] (MB D k (modelW k a M))) (QM D (modelW k a M) (modelW k a r.2) (some (.int r.1))) 0 0 (AD (modelW k a M)) := by
  refine met_Mi (by decide) rfl (Nat.le_of_ble_eq_true rfl) ?_
  intro p e s m below meth c Q args ls hx hb hml hown hts hP hK hN hD hl hQ
  have hl : lv_has ls 6 [(0, .ref (a 0)), (1, .int y1), (2, .int y2)] := hl
  have hown : s.vm.findClass RX5 = some m.cls := hown
  unfold f_X5_neighbours at h
  have hiRX5 : ∀ w ∈ u_ws RX5 TX5 19, w ∈ wsX5_neighbours := by decide +kernel
  have hf53 := hts (.fieldLink RX5 53 "RainCellsModel" "many" "I") (by decide +kernel)
  generalize AD (modelW k a M) = A0 at hD hQ
  have hS : va_S A0 s.heap s.heap [] := va_S.rf
  refine lv_aload_n hx hb dX5_neighbours_0 rfl (lv_at hl 0 rfl) ?_
  refine lv_iload_n hx hb dX5_neighbours_1 rfl (lv_at hl 2 rfl) ?_
  obtain ⟨x1, h2, h⟩ := bd_s h
  refine cR_V (As := [.int y2]) (rest := []) (n := 1) (v := .int (b2i x1)) hx hb hml hown hts hK hN hl.1 (c_X5_isGauge l D k a M y2 x1 h2) gX5_neighbours_X5_isGauge rfl (by decide +kernel) ⟨⟨rfl, rfl⟩, by decide, by decide⟩ hP 0 5 rfl rfl rfl rfl rfl (Nat.le_of_ble_eq_true rfl) dX5_neighbours_2 ⟨Nat.zero_le _, Nat.zero_le _⟩ ?_
  refine lv_if_ne (tgt := 10) hx hb dX5_neighbours_5 (by decide) (fun c3 => ?_) (fun c3 => ?_)
  · have h := if_f h c3
    refine lv_iload_n hx hb dX5_neighbours_10 rfl (lv_at hl 1 rfl) ?_
    obtain ⟨x4, h5, h⟩ := bd_s h
    refine cR_S (As := [.int y1]) (rest := []) (n := 1) (v := .int (b2i x4)) hx hb hml hown hts hK hN hl.1 (c_X5_isDay l D k y1 x4 h5) gX5_neighbours_X5_isDay rfl (by decide +kernel) ⟨⟨rfl, rfl⟩, by decide, by decide⟩ va_P_nil rfl rfl (Nat.le_of_ble_eq_true rfl) dX5_neighbours_11 ⟨Nat.zero_le _, Nat.zero_le _⟩ ?_
    refine lv_if_ne (tgt := 20) hx hb dX5_neighbours_14 (by decide) (fun c6 => ?_) (fun c6 => ?_)
    · have h := if_f h c6
      refine lv_aload_n hx hb dX5_neighbours_20 rfl (lv_at hl 0 rfl) ?_
      refine lv_iload_n hx hb dX5_neighbours_21 rfl (lv_at hl 1 rfl) ?_
      obtain ⟨x7, h8, h⟩ := bd_s h
      refine cR_V (As := [.int y1]) (rest := []) (n := 1) (v := .int x7) hx hb hml hown hts hK hN hl.1 (c_X5_workingOn l D k a M y1 x7 h8) gX5_neighbours_X5_workingOn rfl (by decide +kernel) ⟨⟨rfl, rfl⟩, by decide, by decide⟩ hP 0 5 rfl rfl rfl rfl rfl (Nat.le_of_ble_eq_true rfl) dX5_neighbours_22 ⟨Nat.zero_le _, Nat.zero_le _⟩ ?_
      refine lv_istore_n (lv' := [(3, .int x7), (0, .ref (a 0)), (1, .int y1), (2, .int y2)]) hx hb dX5_neighbours_25 rfl hl (by decide) rfl (fun ls hl => ?_)
      refine lv_aload_n hx hb dX5_neighbours_26 rfl (lv_at hl 1 rfl) ?_
      refine lv_iload_n hx hb dX5_neighbours_27 rfl (lv_at hl 0 rfl) ?_
      obtain ⟨x9, h10, h⟩ := bd_s h
      refine cM_V (As := [.int x7]) (rest := []) (n := 1) (ov := none) (wc := modelW k a M) (wc' := modelW k a x9) (w1 := modelW k a x9) hx hb hml hown hts hK hN hl.1 hP hD hS (Sp.self (md_ad k a _) (md_ad k a _)) (c_X5_lookUp l D k a M x7 x9 h10) gX5_neighbours_X5_lookUp rfl (by decide +kernel) ⟨⟨rfl, rfl⟩, by decide, by decide⟩ 0 5 rfl rfl rfl rfl rfl (Nat.le_of_ble_eq_true rfl) dX5_neighbours_28 ⟨Nat.zero_le _, Nat.zero_le _⟩ (fun H locs hP hD hS => ?_)
      show W p l e rm_X5_neighbours s m args below meth c H locs 0 0 Q (F0 m 31 ls [])
      refine lv_iconst (v := 0) hx hb dX5_neighbours_31 (by decide) ?_
      refine lv_istore (lv' := [(4, .int 0), (3, .int x7), (0, .ref (a 0)), (1, .int y1), (2, .int y2)]) hx hb dX5_neighbours_32 hl (by decide) rfl (fun ls hl => ?_)
      refine lv_iconst (v := 0) hx hb dX5_neighbours_34 (by decide) ?_
      refine lv_istore (lv' := [(5, .int 0), (4, .int 0), (3, .int x7), (0, .ref (a 0)), (1, .int y1), (2, .int y2)]) hx hb dX5_neighbours_35 hl (by decide) rfl (fun ls hl => ?_)
      obtain ⟨x11, h12, h⟩ := bd_s h
      have K26 : ∀ (ls : Array Slot), lv_has ls 6 [(4, .int x11)] → W p l e rm_X5_neighbours s m args below meth c H locs 0 0 Q (F0 m 82 ls []) := by
        intro ls hl
        refine lv_iload hx hb dX5_neighbours_82 (lv_at hl 0 rfl) ?_
        obtain rfl := Option.some.inj h
        exact hQ _ _ _ _ dX5_neighbours_84 hP hS
      refine lp_W (P := fun z13 => ∀ (ls : Array Slot), lv_has ls 6 [(0, .ref (a 0)), (2, .int y2), (3, .int x7), (4, .int z13.1), (5, .int z13.2)] → W p l e rm_X5_neighbours s m args below meth c H locs 0 0 Q (F0 m 37 ls [])) (E := fun x11 => ∀ (ls : Array Slot), lv_has ls 6 [(4, .int x11)] → W p l e rm_X5_neighbours s m args below meth c H locs 0 0 Q (F0 m 82 ls [])) (fun z13 xx15 hB14 kI16 kE17 => ?_) _ _ _ h12 K26 ls (lv_sub hl [3, 5, 2, 1, 0] rfl)
      intro ls hl
      unfold f_X5_neighbours_L37 at hB14
      refine lv_iload hx hb dX5_neighbours_37 (lv_at hl 4 rfl) ?_
      refine lv_aload_n hx hb dX5_neighbours_39 rfl (lv_at hl 0 rfl) ?_
      refine va_get (D := D) (ci := 5) (v := .int x9.2.2.1) (C := RX5) (T := TX5) (N := 19) hx hb hts hiRX5 hown hK hP 0 rfl rfl 2 (by decide) hf53 (fun _ h9 => h9) rfl dX5_neighbours_40 ?_
      refine lv_icmp_ge (tgt := 82) hx hb dX5_neighbours_43 (by decide) (fun c18 => ?_) (fun c18 => ?_)
      · have hB14 := if_t hB14 c18
        exact kE17 _ (Option.some.inj hB14).symm ls (lv_sub hl [3] rfl)
      · have hB14 := if_f hB14 c18
        refine lv_iload hx hb dX5_neighbours_46 (lv_at hl 3 rfl) ?_
        refine lv_iload hx hb dX5_neighbours_48 (lv_at hl 4 rfl) ?_
        refine lv_iload_n hx hb dX5_neighbours_50 rfl (lv_at hl 1 rfl) ?_
        obtain ⟨x19, h20, hB14⟩ := bd_s hB14
        have K21 : W p l e rm_X5_neighbours s m args below meth c H locs 0 0 Q (F0 m 73 ls [.int x19, .int z13.1]) := by
          refine lv_ior hx hb dX5_neighbours_73 ?_
          refine lv_istore (lv' := [(4, .int (z13.1 ||| x19)), (0, .ref (a 0)), (2, .int y2), (3, .int x7), (5, .int z13.2)]) hx hb dX5_neighbours_74 hl (by decide) rfl (fun ls hl => ?_)
          refine lv_iinc (v := (z13.2 + 1)) (lv' := [(5, .int (z13.2 + 1)), (4, .int (z13.1 ||| x19)), (0, .ref (a 0)), (2, .int y2), (3, .int x7)]) hx hb dX5_neighbours_76 hl (k := 4) rfl rfl (by decide) rfl (fun ls hl => ?_)
          refine lv_goto (tgt := 37) hx hb dX5_neighbours_79 (by decide) ?_
          exact kI16 _ (Option.some.inj hB14).symm ls (lv_sub hl [2, 3, 4, 1, 0] rfl)
        refine lv_icmp_eq (tgt := 72) hx hb dX5_neighbours_51 (by decide) (fun c22 => ?_) (fun c22 => ?_)
        · have h20 := if_t h20 c22
          refine lv_iconst (v := 0) hx hb dX5_neighbours_72 (by decide) ?_
          obtain rfl := Option.some.inj h20
          exact K21
        · have h20 := if_f h20 c22
          refine lv_aload_n hx hb dX5_neighbours_54 rfl (lv_at hl 0 rfl) ?_
          refine lv_iload_n hx hb dX5_neighbours_55 rfl (lv_at hl 2 rfl) ?_
          refine lv_iload_n hx hb dX5_neighbours_56 rfl (lv_at hl 1 rfl) ?_
          refine lv_iload hx hb dX5_neighbours_57 (lv_at hl 4 rfl) ?_
          obtain ⟨x23, h24, h20⟩ := bd_s h20
          refine cR_V (As := [.int x7, .int y2, .int z13.2]) (rest := [.int z13.1]) (n := 3) (v := .int x23) hx hb hml hown hts hK hN hl.1 (c_X5_sides l D k a x9 x7 y2 z13.2 x23 h24) gX5_neighbours_X5_sides rfl (by decide +kernel) ⟨⟨rfl, rfl⟩, by decide, by decide⟩ hP 0 5 rfl rfl rfl rfl rfl (Nat.le_of_ble_eq_true rfl) dX5_neighbours_59 ⟨Nat.zero_le _, Nat.zero_le _⟩ ?_
          refine lv_if_le (tgt := 72) hx hb dX5_neighbours_62 (by decide) (fun c25 => ?_) (fun c25 => ?_)
          · have h20 := if_t h20 c25
            refine lv_iconst (v := 0) hx hb dX5_neighbours_72 (by decide) ?_
            obtain rfl := Option.some.inj h20
            exact K21
          · have h20 := if_f h20 c25
            refine lv_iconst (v := 1) hx hb dX5_neighbours_65 (by decide) ?_
            refine lv_iload hx hb dX5_neighbours_66 (lv_at hl 4 rfl) ?_
            refine lv_ishl hx hb dX5_neighbours_68 ?_
            refine lv_goto (tgt := 73) hx hb dX5_neighbours_69 (by decide) ?_
            obtain rfl := Option.some.inj h20
            exact K21
    · have h := if_t h c6
      refine lv_bipush (v := (-2)) hx hb dX5_neighbours_17 (by decide) ?_
      obtain rfl := Option.some.inj h
      exact hQ _ _ _ _ dX5_neighbours_19 hP hS
  · have h := if_t h c3
    refine lv_iconst (v := (-1)) hx hb dX5_neighbours_8 (by decide) ?_
    obtain rfl := Option.some.inj h
    exact hQ _ _ _ _ dX5_neighbours_9 hP hS

abbrev rm_X5_mean : Room := { frames := 5, cells := 0, slots := 0, locals := 118 }
def f_X5_mean (M : ModelV) (y1 : Int32) (y2 : Int32) : Option (Int32 × ModelV) := (f_X5_isDay y1).bind (fun x1 => if (b2i x1) = 0 then (some ((-2), M)) else ((f_X5_in y2 0 1).bind (fun x4 => if (b2i x4) = 0 then (some ((-2), M)) else ((f_X5_hasMean M y1).bind (fun x7 => if (b2i x7) = 0 then (some ((-3), M)) else ((f_X5_workingOn M y1).bind (fun x10 => (f_X5_lookUp M x10).bind (fun x12 => (f_X5_water x12 y1).bind (fun x14 => (f_X5_plots x12).bind (fun x16 => (f_X5_part x14 x16 y2).bind (fun x18 => some (x18, x12))))))))))))
set_option maxHeartbeats 4000000 in
set_option maxRecDepth 100000 in
theorem c_X5_mean (l : Launch) (D : va_G) (k : Nat → ClassId) (a : Nat → Nat) (M : ModelV) (y1 : Int32) (y2 : Int32) (r : Int32 × ModelV) (h : f_X5_mean M y1 y2 = some r) : Met l yX5_mean wsX5_mean rm_X5_mean (va_Pc [.ref (a 0), .int y1, .int y2] (MB D k (modelW k a M))) (QM D (modelW k a M) (modelW k a r.2) (some (.int r.1))) 0 0 (AD (modelW k a M)) := by
  refine met_Mi (by decide) rfl (Nat.le_of_ble_eq_true rfl) ?_
  intro p e s m below meth c Q args ls hx hb hml hown hts hP hK hN hD hl hQ
  have hl : lv_has ls 3 [(0, .ref (a 0)), (1, .int y1), (2, .int y2)] := hl
  have hown : s.vm.findClass RX5 = some m.cls := hown
  unfold f_X5_mean at h
  generalize AD (modelW k a M) = A0 at hD hQ
  have hS : va_S A0 s.heap s.heap [] := va_S.rf
  refine lv_iload_n hx hb dX5_mean_0 rfl (lv_at hl 1 rfl) ?_
  obtain ⟨x1, h2, h⟩ := bd_s h
  refine cR_S (As := [.int y1]) (rest := []) (n := 1) (v := .int (b2i x1)) hx hb hml hown hts hK hN hl.1 (c_X5_isDay l D k y1 x1 h2) gX5_mean_X5_isDay rfl (by decide +kernel) ⟨⟨rfl, rfl⟩, by decide, by decide⟩ va_P_nil rfl rfl (Nat.le_of_ble_eq_true rfl) dX5_mean_1 ⟨Nat.zero_le _, Nat.zero_le _⟩ ?_
  refine lv_if_eq (tgt := 16) hx hb dX5_mean_4 (by decide) (fun c3 => ?_) (fun c3 => ?_)
  · have h := if_t h c3
    refine lv_bipush (v := (-2)) hx hb dX5_mean_16 (by decide) ?_
    obtain rfl := Option.some.inj h
    exact hQ _ _ _ _ dX5_mean_18 hP hS
  · have h := if_f h c3
    refine lv_iload_n hx hb dX5_mean_7 rfl (lv_at hl 2 rfl) ?_
    refine lv_iconst (v := 0) hx hb dX5_mean_8 (by decide) ?_
    refine lv_iconst (v := 1) hx hb dX5_mean_9 (by decide) ?_
    obtain ⟨x4, h5, h⟩ := bd_s h
    refine cR_S (As := [.int y2, .int 0, .int 1]) (rest := []) (n := 3) (v := .int (b2i x4)) hx hb hml hown hts hK hN hl.1 (c_X5_in l D k y2 0 1 x4 h5) gX5_mean_X5_in rfl (by decide +kernel) ⟨⟨rfl, rfl⟩, by decide, by decide⟩ va_P_nil rfl rfl (Nat.le_of_ble_eq_true rfl) dX5_mean_10 ⟨Nat.zero_le _, Nat.zero_le _⟩ ?_
    refine lv_if_ne (tgt := 19) hx hb dX5_mean_13 (by decide) (fun c6 => ?_) (fun c6 => ?_)
    · have h := if_f h c6
      refine lv_aload_n hx hb dX5_mean_19 rfl (lv_at hl 0 rfl) ?_
      refine lv_iload_n hx hb dX5_mean_20 rfl (lv_at hl 1 rfl) ?_
      obtain ⟨x7, h8, h⟩ := bd_s h
      refine cR_V (As := [.int y1]) (rest := []) (n := 1) (v := .int (b2i x7)) hx hb hml hown hts hK hN hl.1 (c_X5_hasMean l D k a M y1 x7 h8) gX5_mean_X5_hasMean rfl (by decide +kernel) ⟨⟨rfl, rfl⟩, by decide, by decide⟩ hP 0 5 rfl rfl rfl rfl rfl (Nat.le_of_ble_eq_true rfl) dX5_mean_21 ⟨Nat.zero_le _, Nat.zero_le _⟩ ?_
      refine lv_if_ne (tgt := 30) hx hb dX5_mean_24 (by decide) (fun c9 => ?_) (fun c9 => ?_)
      · have h := if_f h c9
        refine lv_aload_n hx hb dX5_mean_30 rfl (lv_at hl 0 rfl) ?_
        refine lv_aload_n hx hb dX5_mean_31 rfl (lv_at hl 0 rfl) ?_
        refine lv_iload_n hx hb dX5_mean_32 rfl (lv_at hl 1 rfl) ?_
        obtain ⟨x10, h11, h⟩ := bd_s h
        refine cR_V (As := [.int y1]) (rest := [.ref (a 0)]) (n := 1) (v := .int x10) hx hb hml hown hts hK hN hl.1 (c_X5_workingOn l D k a M y1 x10 h11) gX5_mean_X5_workingOn rfl (by decide +kernel) ⟨⟨rfl, rfl⟩, by decide, by decide⟩ hP 0 5 rfl rfl rfl rfl rfl (Nat.le_of_ble_eq_true rfl) dX5_mean_33 ⟨Nat.zero_le _, Nat.zero_le _⟩ ?_
        obtain ⟨x12, h13, h⟩ := bd_s h
        refine cM_V (As := [.int x10]) (rest := []) (n := 1) (ov := none) (wc := modelW k a M) (wc' := modelW k a x12) (w1 := modelW k a x12) hx hb hml hown hts hK hN hl.1 hP hD hS (Sp.self (md_ad k a _) (md_ad k a _)) (c_X5_lookUp l D k a M x10 x12 h13) gX5_mean_X5_lookUp rfl (by decide +kernel) ⟨⟨rfl, rfl⟩, by decide, by decide⟩ 0 5 rfl rfl rfl rfl rfl (Nat.le_of_ble_eq_true rfl) dX5_mean_36 ⟨Nat.zero_le _, Nat.zero_le _⟩ (fun H locs hP hD hS => ?_)
        show W p l e rm_X5_mean s m args below meth c H locs 0 0 Q (F0 m 39 ls [])
        refine lv_aload_n hx hb dX5_mean_39 rfl (lv_at hl 0 rfl) ?_
        refine lv_iload_n hx hb dX5_mean_40 rfl (lv_at hl 1 rfl) ?_
        obtain ⟨x14, h15, h⟩ := bd_s h
        refine cR_V (As := [.int y1]) (rest := []) (n := 1) (v := .int x14) hx hb hml hown hts hK hN hl.1 (c_X5_water l D k a x12 y1 x14 h15) gX5_mean_X5_water rfl (by decide +kernel) ⟨⟨rfl, rfl⟩, by decide, by decide⟩ hP 0 5 rfl rfl rfl rfl rfl (Nat.le_of_ble_eq_true rfl) dX5_mean_41 ⟨Nat.zero_le _, Nat.zero_le _⟩ ?_
        refine lv_aload_n hx hb dX5_mean_44 rfl (lv_at hl 0 rfl) ?_
        obtain ⟨x16, h17, h⟩ := bd_s h
        refine cR_V (As := []) (rest := [.int x14]) (n := 0) (v := .int x16) hx hb hml hown hts hK hN hl.1 (c_X5_plots l D k a x12 x16 h17) gX5_mean_X5_plots rfl (by decide +kernel) ⟨⟨rfl, rfl⟩, by decide, by decide⟩ hP 0 5 rfl rfl rfl rfl rfl (Nat.le_of_ble_eq_true rfl) dX5_mean_45 ⟨Nat.zero_le _, Nat.zero_le _⟩ ?_
        refine lv_iload_n hx hb dX5_mean_48 rfl (lv_at hl 2 rfl) ?_
        obtain ⟨x18, h19, h⟩ := bd_s h
        refine cR_S (As := [.int x14, .int x16, .int y2]) (rest := []) (n := 3) (v := .int x18) hx hb hml hown hts hK hN hl.1 (c_X5_part l D k x14 x16 y2 x18 h19) gX5_mean_X5_part rfl (by decide +kernel) ⟨⟨rfl, rfl⟩, by decide, by decide⟩ va_P_nil rfl rfl (Nat.le_of_ble_eq_true rfl) dX5_mean_49 ⟨Nat.zero_le _, Nat.zero_le _⟩ ?_
        obtain rfl := Option.some.inj h
        exact hQ _ _ _ _ dX5_mean_52 hP hS
      · have h := if_t h c9
        refine lv_bipush (v := (-3)) hx hb dX5_mean_27 (by decide) ?_
        obtain rfl := Option.some.inj h
        exact hQ _ _ _ _ dX5_mean_29 hP hS
    · have h := if_t h c6
      refine lv_bipush (v := (-2)) hx hb dX5_mean_16 (by decide) ?_
      obtain rfl := Option.some.inj h
      exact hQ _ _ _ _ dX5_mean_18 hP hS

abbrev rm_X5_total : Room := { frames := 5, cells := 0, slots := 0, locals := 118 }
def f_X5_total_L40 (y2 : Int32) (y3 : Int32) (z : Int32 × Int32 × Int32 × ModelV) : Option ((Int32 × Int32 × Int32 × ModelV) ⊕ (Int32 × Int32 × ModelV)) := if y2 < z.2.2.1 then (some (.inr (z.1, z.2.1, z.2.2.2))) else ((f_X5_hasMean z.2.2.2 z.2.2.1).bind (fun x12 => (if (b2i x12) = 0 then (some (z.1, z.2.1, z.2.2.2)) else ((f_X5_workingOn z.2.2.2 z.2.2.1).bind (fun x18 => (f_X5_lookUp z.2.2.2 x18).bind (fun x20 => (f_X5_water x20 z.2.2.1).bind (fun x22 => some ((z.1 + x22), (z.2.1 + 1), x20))))) : Option (Int32 × Int32 × ModelV)).bind (fun x14 => some (.inl (x14.1, x14.2.1, (z.2.2.1 + 1), x14.2.2)))))
def f_X5_total (M : ModelV) (y1 : Int32) (y2 : Int32) (y3 : Int32) : Option (Int32 × ModelV) := (f_X5_isDay y1).bind (fun x1 => if (b2i x1) = 0 then (some ((-2), M)) else ((f_X5_isDay y2).bind (fun x4 => if (b2i x4) = 0 then (some ((-2), M)) else (if y2 < y1 then (some ((-2), M)) else ((f_X5_in y3 0 2).bind (fun x8 => if (b2i x8) = 0 then (some ((-2), M)) else ((lp (f_X5_total_L40 y2 y3) fu (0, 0, y1, M)).bind (fun x11 => if y3 = 2 then (some (x11.2.1, x11.2.2)) else (if x11.2.1 = 0 then (some (y3, x11.2.2)) else ((f_X5_plots x11.2.2).bind (fun x20 => (f_X5_part x11.1 x20 y3).bind (fun x22 => some (x22, x11.2.2)))))))))))))
set_option maxHeartbeats 4000000 in
set_option maxRecDepth 100000 in
theorem c_X5_total (l : Launch) (D : va_G) (k : Nat → ClassId) (a : Nat → Nat) (M : ModelV) (y1 : Int32) (y2 : Int32) (y3 : Int32) (r : Int32 × ModelV) (h : f_X5_total M y1 y2 y3 = some r) : Met l yX5_total wsX5_total rm_X5_total (va_Pc [.ref (a 0), .int y1, .int y2, .int y3] (MB D k (modelW k a M))) (QM D (modelW k a M) (modelW k a r.2) (some (.int r.1))) 0 0 (AD (modelW k a M)) := by
  refine met_Mi (by decide) rfl (Nat.le_of_ble_eq_true rfl) ?_
  intro p e s m below meth c Q args ls hx hb hml hown hts hP hK hN hD hl hQ
  have hl : lv_has ls 7 [(0, .ref (a 0)), (1, .int y1), (2, .int y2), (3, .int y3)] := hl
  have hown : s.vm.findClass RX5 = some m.cls := hown
  unfold f_X5_total at h
  generalize AD (modelW k a M) = A0 at hD hQ
  have hS : va_S A0 s.heap s.heap [] := va_S.rf
  refine lv_iload_n hx hb dX5_total_0 rfl (lv_at hl 1 rfl) ?_
  obtain ⟨x1, h2, h⟩ := bd_s h
  refine cR_S (As := [.int y1]) (rest := []) (n := 1) (v := .int (b2i x1)) hx hb hml hown hts hK hN hl.1 (c_X5_isDay l D k y1 x1 h2) gX5_total_X5_isDay rfl (by decide +kernel) ⟨⟨rfl, rfl⟩, by decide, by decide⟩ va_P_nil rfl rfl (Nat.le_of_ble_eq_true rfl) dX5_total_1 ⟨Nat.zero_le _, Nat.zero_le _⟩ ?_
  refine lv_if_eq (tgt := 28) hx hb dX5_total_4 (by decide) (fun c3 => ?_) (fun c3 => ?_)
  · have h := if_t h c3
    refine lv_bipush (v := (-2)) hx hb dX5_total_28 (by decide) ?_
    obtain rfl := Option.some.inj h
    exact hQ _ _ _ _ dX5_total_30 hP hS
  · have h := if_f h c3
    refine lv_iload_n hx hb dX5_total_7 rfl (lv_at hl 2 rfl) ?_
    obtain ⟨x4, h5, h⟩ := bd_s h
    refine cR_S (As := [.int y2]) (rest := []) (n := 1) (v := .int (b2i x4)) hx hb hml hown hts hK hN hl.1 (c_X5_isDay l D k y2 x4 h5) gX5_total_X5_isDay rfl (by decide +kernel) ⟨⟨rfl, rfl⟩, by decide, by decide⟩ va_P_nil rfl rfl (Nat.le_of_ble_eq_true rfl) dX5_total_8 ⟨Nat.zero_le _, Nat.zero_le _⟩ ?_
    refine lv_if_eq (tgt := 28) hx hb dX5_total_11 (by decide) (fun c6 => ?_) (fun c6 => ?_)
    · have h := if_t h c6
      refine lv_bipush (v := (-2)) hx hb dX5_total_28 (by decide) ?_
      obtain rfl := Option.some.inj h
      exact hQ _ _ _ _ dX5_total_30 hP hS
    · have h := if_f h c6
      refine lv_iload_n hx hb dX5_total_14 rfl (lv_at hl 1 rfl) ?_
      refine lv_iload_n hx hb dX5_total_15 rfl (lv_at hl 2 rfl) ?_
      refine lv_icmp_gt (tgt := 28) hx hb dX5_total_16 (by decide) (fun c7 => ?_) (fun c7 => ?_)
      · have h := if_t h c7
        refine lv_bipush (v := (-2)) hx hb dX5_total_28 (by decide) ?_
        obtain rfl := Option.some.inj h
        exact hQ _ _ _ _ dX5_total_30 hP hS
      · have h := if_f h c7
        refine lv_iload_n hx hb dX5_total_19 rfl (lv_at hl 3 rfl) ?_
        refine lv_iconst (v := 0) hx hb dX5_total_20 (by decide) ?_
        refine lv_iconst (v := 2) hx hb dX5_total_21 (by decide) ?_
        obtain ⟨x8, h9, h⟩ := bd_s h
        refine cR_S (As := [.int y3, .int 0, .int 2]) (rest := []) (n := 3) (v := .int (b2i x8)) hx hb hml hown hts hK hN hl.1 (c_X5_in l D k y3 0 2 x8 h9) gX5_total_X5_in rfl (by decide +kernel) ⟨⟨rfl, rfl⟩, by decide, by decide⟩ va_P_nil rfl rfl (Nat.le_of_ble_eq_true rfl) dX5_total_22 ⟨Nat.zero_le _, Nat.zero_le _⟩ ?_
        refine lv_if_ne (tgt := 31) hx hb dX5_total_25 (by decide) (fun c10 => ?_) (fun c10 => ?_)
        · have h := if_f h c10
          refine lv_iconst (v := 0) hx hb dX5_total_31 (by decide) ?_
          refine lv_istore (lv' := [(4, .int 0), (0, .ref (a 0)), (1, .int y1), (2, .int y2), (3, .int y3)]) hx hb dX5_total_32 hl (by decide) rfl (fun ls hl => ?_)
          refine lv_iconst (v := 0) hx hb dX5_total_34 (by decide) ?_
          refine lv_istore (lv' := [(5, .int 0), (4, .int 0), (0, .ref (a 0)), (1, .int y1), (2, .int y2), (3, .int y3)]) hx hb dX5_total_35 hl (by decide) rfl (fun ls hl => ?_)
          refine lv_iload_n hx hb dX5_total_37 rfl (lv_at hl 3 rfl) ?_
          refine lv_istore (lv' := [(6, .int y1), (5, .int 0), (4, .int 0), (0, .ref (a 0)), (1, .int y1), (2, .int y2), (3, .int y3)]) hx hb dX5_total_38 hl (by decide) rfl (fun ls hl => ?_)
          obtain ⟨x11, h12, h⟩ := bd_s h
          have K37 : ∀ (ls : Array Slot) (H : Heap) (locs : List Loc), lv_has ls 7 [(0, .ref (a 0)), (3, .int y3), (4, .int x11.1), (5, .int x11.2.1)] → va_P D vwCl (modelW k a x11.2.2) H → va_D A0 (modelW k a x11.2.2) → va_S A0 s.heap H locs → W p l e rm_X5_total s m args below meth c H locs 0 0 Q (F0 m 85 ls []) := by
            intro ls H locs hl hP hD hS
            refine lv_iload_n hx hb dX5_total_85 rfl (lv_at hl 1 rfl) ?_
            refine lv_iconst (v := 2) hx hb dX5_total_86 (by decide) ?_
            refine lv_icmp_ne (tgt := 93) hx hb dX5_total_87 (by decide) (fun c18 => ?_) (fun c18 => ?_)
            · have h := if_f h c18
              refine lv_iload hx hb dX5_total_93 (lv_at hl 3 rfl) ?_
              refine lv_if_ne (tgt := 102) hx hb dX5_total_95 (by decide) (fun c19 => ?_) (fun c19 => ?_)
              · have h := if_f h c19
                refine lv_iload hx hb dX5_total_102 (lv_at hl 2 rfl) ?_
                refine lv_aload_n hx hb dX5_total_104 rfl (lv_at hl 0 rfl) ?_
                obtain ⟨x20, h21, h⟩ := bd_s h
                refine cR_V (As := []) (rest := [.int x11.1]) (n := 0) (v := .int x20) hx hb hml hown hts hK hN hl.1 (c_X5_plots l D k a x11.2.2 x20 h21) gX5_total_X5_plots rfl (by decide +kernel) ⟨⟨rfl, rfl⟩, by decide, by decide⟩ hP 0 5 rfl rfl rfl rfl rfl (Nat.le_of_ble_eq_true rfl) dX5_total_105 ⟨Nat.zero_le _, Nat.zero_le _⟩ ?_
                refine lv_iload_n hx hb dX5_total_108 rfl (lv_at hl 1 rfl) ?_
                obtain ⟨x22, h23, h⟩ := bd_s h
                refine cR_S (As := [.int x11.1, .int x20, .int y3]) (rest := []) (n := 3) (v := .int x22) hx hb hml hown hts hK hN hl.1 (c_X5_part l D k x11.1 x20 y3 x22 h23) gX5_total_X5_part rfl (by decide +kernel) ⟨⟨rfl, rfl⟩, by decide, by decide⟩ va_P_nil rfl rfl (Nat.le_of_ble_eq_true rfl) dX5_total_109 ⟨Nat.zero_le _, Nat.zero_le _⟩ ?_
                obtain rfl := Option.some.inj h
                exact hQ _ _ _ _ dX5_total_112 hP hS
              · have h := if_t h c19
                refine lv_iload_n hx hb dX5_total_98 rfl (lv_at hl 1 rfl) ?_
                refine lv_goto (tgt := 112) hx hb dX5_total_99 (by decide) ?_
                obtain rfl := Option.some.inj h
                exact hQ _ _ _ _ dX5_total_112 hP hS
            · have h := if_t h c18
              refine lv_iload hx hb dX5_total_90 (lv_at hl 3 rfl) ?_
              obtain rfl := Option.some.inj h
              exact hQ _ _ _ _ dX5_total_92 hP hS
          refine lp_W (P := fun z13 => ∀ (ls : Array Slot) (H : Heap) (locs : List Loc), lv_has ls 7 [(0, .ref (a 0)), (2, .int y2), (3, .int y3), (4, .int z13.1), (5, .int z13.2.1), (6, .int z13.2.2.1)] → va_P D vwCl (modelW k a z13.2.2.2) H → va_D A0 (modelW k a z13.2.2.2) → va_S A0 s.heap H locs → W p l e rm_X5_total s m args below meth c H locs 0 0 Q (F0 m 40 ls [])) (E := fun x11 => ∀ (ls : Array Slot) (H : Heap) (locs : List Loc), lv_has ls 7 [(0, .ref (a 0)), (3, .int y3), (4, .int x11.1), (5, .int x11.2.1)] → va_P D vwCl (modelW k a x11.2.2) H → va_D A0 (modelW k a x11.2.2) → va_S A0 s.heap H locs → W p l e rm_X5_total s m args below meth c H locs 0 0 Q (F0 m 85 ls [])) (fun z13 xx15 hB14 kI16 kE17 => ?_) _ _ _ h12 K37 ls s.heap [] (lv_sub hl [3, 5, 6, 2, 1, 0] rfl) hP hD hS
          intro ls H locs hl hP hD hS
          unfold f_X5_total_L40 at hB14
          refine lv_iload hx hb dX5_total_40 (lv_at hl 5 rfl) ?_
          refine lv_iload_n hx hb dX5_total_42 rfl (lv_at hl 1 rfl) ?_
          refine lv_icmp_gt (tgt := 85) hx hb dX5_total_43 (by decide) (fun c24 => ?_) (fun c24 => ?_)
          · have hB14 := if_t hB14 c24
            exact kE17 _ (Option.some.inj hB14).symm ls H locs (lv_sub hl [0, 2, 3, 4] rfl) hP hD hS
          · have hB14 := if_f hB14 c24
            refine lv_aload_n hx hb dX5_total_46 rfl (lv_at hl 0 rfl) ?_
            refine lv_iload hx hb dX5_total_47 (lv_at hl 5 rfl) ?_
            obtain ⟨x25, h26, hB14⟩ := bd_s hB14
            refine cR_V (As := [.int z13.2.2.1]) (rest := []) (n := 1) (v := .int (b2i x25)) hx hb hml hown hts hK hN hl.1 (c_X5_hasMean l D k a z13.2.2.2 z13.2.2.1 x25 h26) gX5_total_X5_hasMean rfl (by decide +kernel) ⟨⟨rfl, rfl⟩, by decide, by decide⟩ hP 0 5 rfl rfl rfl rfl rfl (Nat.le_of_ble_eq_true rfl) dX5_total_49 ⟨Nat.zero_le _, Nat.zero_le _⟩ ?_
            obtain ⟨x27, h28, hB14⟩ := bd_s hB14
            have K29 : ∀ (ls : Array Slot) (H : Heap) (locs : List Loc), lv_has ls 7 [(0, .ref (a 0)), (2, .int y2), (3, .int y3), (4, .int x27.1), (5, .int x27.2.1), (6, .int z13.2.2.1)] → va_P D vwCl (modelW k a x27.2.2) H → va_D A0 (modelW k a x27.2.2) → va_S A0 s.heap H locs → W p l e rm_X5_total s m args below meth c H locs 0 0 Q (F0 m 79 ls []) := by
              intro ls H locs hl hP hD hS
              refine lv_iinc (v := (z13.2.2.1 + 1)) (lv' := [(6, .int (z13.2.2.1 + 1)), (0, .ref (a 0)), (2, .int y2), (3, .int y3), (4, .int x27.1), (5, .int x27.2.1)]) hx hb dX5_total_79 hl (k := 5) rfl rfl (by decide) rfl (fun ls hl => ?_)
              refine lv_goto (tgt := 40) hx hb dX5_total_82 (by decide) ?_
              exact kI16 _ (Option.some.inj hB14).symm ls H locs (lv_sub hl [1, 2, 3, 4, 5, 0] rfl) hP hD hS
            refine lv_if_eq (tgt := 79) hx hb dX5_total_52 (by decide) (fun c30 => ?_) (fun c30 => ?_)
            · have h28 := if_t h28 c30
              obtain rfl := Option.some.inj h28
              exact K29 ls H locs (lv_sub hl [0, 1, 2, 3, 4, 5] rfl) hP hD hS
            · have h28 := if_f h28 c30
              refine lv_aload_n hx hb dX5_total_55 rfl (lv_at hl 0 rfl) ?_
              refine lv_aload_n hx hb dX5_total_56 rfl (lv_at hl 0 rfl) ?_
              refine lv_iload hx hb dX5_total_57 (lv_at hl 5 rfl) ?_
              obtain ⟨x31, h32, h28⟩ := bd_s h28
              refine cR_V (As := [.int z13.2.2.1]) (rest := [.ref (a 0)]) (n := 1) (v := .int x31) hx hb hml hown hts hK hN hl.1 (c_X5_workingOn l D k a z13.2.2.2 z13.2.2.1 x31 h32) gX5_total_X5_workingOn rfl (by decide +kernel) ⟨⟨rfl, rfl⟩, by decide, by decide⟩ hP 0 5 rfl rfl rfl rfl rfl (Nat.le_of_ble_eq_true rfl) dX5_total_59 ⟨Nat.zero_le _, Nat.zero_le _⟩ ?_
              obtain ⟨x33, h34, h28⟩ := bd_s h28
              refine cM_V (As := [.int x31]) (rest := []) (n := 1) (ov := none) (wc := modelW k a z13.2.2.2) (wc' := modelW k a x33) (w1 := modelW k a x33) hx hb hml hown hts hK hN hl.1 hP hD hS (Sp.self (md_ad k a _) (md_ad k a _)) (c_X5_lookUp l D k a z13.2.2.2 x31 x33 h34) gX5_total_X5_lookUp rfl (by decide +kernel) ⟨⟨rfl, rfl⟩, by decide, by decide⟩ 0 5 rfl rfl rfl rfl rfl (Nat.le_of_ble_eq_true rfl) dX5_total_62 ⟨Nat.zero_le _, Nat.zero_le _⟩ (fun H locs hP hD hS => ?_)
              show W p l e rm_X5_total s m args below meth c H locs 0 0 Q (F0 m 65 ls [])
              refine lv_iload hx hb dX5_total_65 (lv_at hl 3 rfl) ?_
              refine lv_aload_n hx hb dX5_total_67 rfl (lv_at hl 0 rfl) ?_
              refine lv_iload hx hb dX5_total_68 (lv_at hl 5 rfl) ?_
              obtain ⟨x35, h36, h28⟩ := bd_s h28
              refine cR_V (As := [.int z13.2.2.1]) (rest := [.int z13.1]) (n := 1) (v := .int x35) hx hb hml hown hts hK hN hl.1 (c_X5_water l D k a x33 z13.2.2.1 x35 h36) gX5_total_X5_water rfl (by decide +kernel) ⟨⟨rfl, rfl⟩, by decide, by decide⟩ hP 0 5 rfl rfl rfl rfl rfl (Nat.le_of_ble_eq_true rfl) dX5_total_70 ⟨Nat.zero_le _, Nat.zero_le _⟩ ?_
              refine lv_iadd hx hb dX5_total_73 ?_
              refine lv_istore (lv' := [(4, .int (z13.1 + x35)), (0, .ref (a 0)), (2, .int y2), (3, .int y3), (5, .int z13.2.1), (6, .int z13.2.2.1)]) hx hb dX5_total_74 hl (by decide) rfl (fun ls hl => ?_)
              refine lv_iinc (v := (z13.2.1 + 1)) (lv' := [(5, .int (z13.2.1 + 1)), (4, .int (z13.1 + x35)), (0, .ref (a 0)), (2, .int y2), (3, .int y3), (6, .int z13.2.2.1)]) hx hb dX5_total_76 hl (k := 4) rfl rfl (by decide) rfl (fun ls hl => ?_)
              obtain rfl := Option.some.inj h28
              exact K29 ls H locs (lv_sub hl [2, 3, 4, 1, 0, 5] rfl) hP hD hS
        · have h := if_t h c10
          refine lv_bipush (v := (-2)) hx hb dX5_total_28 (by decide) ?_
          obtain rfl := Option.some.inj h
          exact hQ _ _ _ _ dX5_total_30 hP hS

abbrev rm_X5_spread : Room := { frames := 4, cells := 0, slots := 0, locals := 94 }
def f_X5_spread_L33 (M : ModelV) (y2 : Int32) (z : Int32 × Int32) : Option ((Int32 × Int32) ⊕ (Int32)) := if M.2.2.1 ≤ z.2 then (some (.inr z.1)) else ((f_X5_farOf M y2 z.2).bind (fun x10 => some (.inl ((z.1 + x10), (z.2 + 1)))))
def f_X5_spread (M : ModelV) (y1 : Int32) : Option (Int32 × ModelV) := (f_X5_isDay y1).bind (fun x1 => if (b2i x1) = 0 then (some ((-2), M)) else ((f_X5_workingOn M y1).bind (fun x4 => if x4 = 0 then (some ((-6), M)) else ((f_X5_lookUp M x4).bind (fun x7 => (lp (f_X5_spread_L33 x7 x4) fu (0, 0)).bind (fun x9 => some (x9, x7)))))))
set_option maxHeartbeats 4000000 in
set_option maxRecDepth 100000 in
theorem c_X5_spread (l : Launch) (D : va_G) (k : Nat → ClassId) (a : Nat → Nat) (M : ModelV) (y1 : Int32) (r : Int32 × ModelV) (h : f_X5_spread M y1 = some r) : Met l yX5_spread wsX5_spread rm_X5_spread (va_Pc [.ref (a 0), .int y1] (MB D k (modelW k a M))) (QM D (modelW k a M) (modelW k a r.2) (some (.int r.1))) 0 0 (AD (modelW k a M)) := by
  refine met_Mi (by decide) rfl (Nat.le_of_ble_eq_true rfl) ?_
  intro p e s m below meth c Q args ls hx hb hml hown hts hP hK hN hD hl hQ
  have hl : lv_has ls 5 [(0, .ref (a 0)), (1, .int y1)] := hl
  have hown : s.vm.findClass RX5 = some m.cls := hown
  unfold f_X5_spread at h
  have hiRX5 : ∀ w ∈ u_ws RX5 TX5 19, w ∈ wsX5_spread := by decide +kernel
  have hf53 := hts (.fieldLink RX5 53 "RainCellsModel" "many" "I") (by decide +kernel)
  generalize AD (modelW k a M) = A0 at hD hQ
  have hS : va_S A0 s.heap s.heap [] := va_S.rf
  refine lv_iload_n hx hb dX5_spread_0 rfl (lv_at hl 1 rfl) ?_
  obtain ⟨x1, h2, h⟩ := bd_s h
  refine cR_S (As := [.int y1]) (rest := []) (n := 1) (v := .int (b2i x1)) hx hb hml hown hts hK hN hl.1 (c_X5_isDay l D k y1 x1 h2) gX5_spread_X5_isDay rfl (by decide +kernel) ⟨⟨rfl, rfl⟩, by decide, by decide⟩ va_P_nil rfl rfl (Nat.le_of_ble_eq_true rfl) dX5_spread_1 ⟨Nat.zero_le _, Nat.zero_le _⟩ ?_
  refine lv_if_ne (tgt := 10) hx hb dX5_spread_4 (by decide) (fun c3 => ?_) (fun c3 => ?_)
  · have h := if_f h c3
    refine lv_aload_n hx hb dX5_spread_10 rfl (lv_at hl 0 rfl) ?_
    refine lv_iload_n hx hb dX5_spread_11 rfl (lv_at hl 1 rfl) ?_
    obtain ⟨x4, h5, h⟩ := bd_s h
    refine cR_V (As := [.int y1]) (rest := []) (n := 1) (v := .int x4) hx hb hml hown hts hK hN hl.1 (c_X5_workingOn l D k a M y1 x4 h5) gX5_spread_X5_workingOn rfl (by decide +kernel) ⟨⟨rfl, rfl⟩, by decide, by decide⟩ hP 0 5 rfl rfl rfl rfl rfl (Nat.le_of_ble_eq_true rfl) dX5_spread_12 ⟨Nat.zero_le _, Nat.zero_le _⟩ ?_
    refine lv_istore_n (lv' := [(2, .int x4), (0, .ref (a 0)), (1, .int y1)]) hx hb dX5_spread_15 rfl hl (by decide) rfl (fun ls hl => ?_)
    refine lv_iload_n hx hb dX5_spread_16 rfl (lv_at hl 0 rfl) ?_
    refine lv_if_ne (tgt := 23) hx hb dX5_spread_17 (by decide) (fun c6 => ?_) (fun c6 => ?_)
    · have h := if_f h c6
      refine lv_aload_n hx hb dX5_spread_23 rfl (lv_at hl 1 rfl) ?_
      refine lv_iload_n hx hb dX5_spread_24 rfl (lv_at hl 0 rfl) ?_
      obtain ⟨x7, h8, h⟩ := bd_s h
      refine cM_V (As := [.int x4]) (rest := []) (n := 1) (ov := none) (wc := modelW k a M) (wc' := modelW k a x7) (w1 := modelW k a x7) hx hb hml hown hts hK hN hl.1 hP hD hS (Sp.self (md_ad k a _) (md_ad k a _)) (c_X5_lookUp l D k a M x4 x7 h8) gX5_spread_X5_lookUp rfl (by decide +kernel) ⟨⟨rfl, rfl⟩, by decide, by decide⟩ 0 5 rfl rfl rfl rfl rfl (Nat.le_of_ble_eq_true rfl) dX5_spread_25 ⟨Nat.zero_le _, Nat.zero_le _⟩ (fun H locs hP hD hS => ?_)
      show W p l e rm_X5_spread s m args below meth c H locs 0 0 Q (F0 m 28 ls [])
      refine lv_iconst (v := 0) hx hb dX5_spread_28 (by decide) ?_
      refine lv_istore_n (lv' := [(3, .int 0), (2, .int x4), (0, .ref (a 0)), (1, .int y1)]) hx hb dX5_spread_29 rfl hl (by decide) rfl (fun ls hl => ?_)
      refine lv_iconst (v := 0) hx hb dX5_spread_30 (by decide) ?_
      refine lv_istore (lv' := [(4, .int 0), (3, .int 0), (2, .int x4), (0, .ref (a 0)), (1, .int y1)]) hx hb dX5_spread_31 hl (by decide) rfl (fun ls hl => ?_)
      obtain ⟨x9, h10, h⟩ := bd_s h
      have K19 : ∀ (ls : Array Slot), lv_has ls 5 [(3, .int x9)] → W p l e rm_X5_spread s m args below meth c H locs 0 0 Q (F0 m 58 ls []) := by
        intro ls hl
        refine lv_iload_n hx hb dX5_spread_58 rfl (lv_at hl 0 rfl) ?_
        obtain rfl := Option.some.inj h
        exact hQ _ _ _ _ dX5_spread_59 hP hS
      refine lp_W (P := fun z11 => ∀ (ls : Array Slot), lv_has ls 5 [(0, .ref (a 0)), (2, .int x4), (3, .int z11.1), (4, .int z11.2)] → W p l e rm_X5_spread s m args below meth c H locs 0 0 Q (F0 m 33 ls [])) (E := fun x9 => ∀ (ls : Array Slot), lv_has ls 5 [(3, .int x9)] → W p l e rm_X5_spread s m args below meth c H locs 0 0 Q (F0 m 58 ls [])) (fun z11 xx13 hB12 kI14 kE15 => ?_) _ _ _ h10 K19 ls (lv_sub hl [3, 2, 1, 0] rfl)
      intro ls hl
      unfold f_X5_spread_L33 at hB12
      refine lv_iload hx hb dX5_spread_33 (lv_at hl 3 rfl) ?_
      refine lv_aload_n hx hb dX5_spread_35 rfl (lv_at hl 0 rfl) ?_
      refine va_get (D := D) (ci := 5) (v := .int x7.2.2.1) (C := RX5) (T := TX5) (N := 19) hx hb hts hiRX5 hown hK hP 0 rfl rfl 2 (by decide) hf53 (fun _ h9 => h9) rfl dX5_spread_36 ?_
      refine lv_icmp_ge (tgt := 58) hx hb dX5_spread_39 (by decide) (fun c16 => ?_) (fun c16 => ?_)
      · have hB12 := if_t hB12 c16
        exact kE15 _ (Option.some.inj hB12).symm ls (lv_sub hl [2] rfl)
      · have hB12 := if_f hB12 c16
        refine lv_iload_n hx hb dX5_spread_42 rfl (lv_at hl 2 rfl) ?_
        refine lv_aload_n hx hb dX5_spread_43 rfl (lv_at hl 0 rfl) ?_
        refine lv_iload_n hx hb dX5_spread_44 rfl (lv_at hl 1 rfl) ?_
        refine lv_iload hx hb dX5_spread_45 (lv_at hl 3 rfl) ?_
        obtain ⟨x17, h18, hB12⟩ := bd_s hB12
        refine cR_V (As := [.int x4, .int z11.2]) (rest := [.int z11.1]) (n := 2) (v := .int x17) hx hb hml hown hts hK hN hl.1 (c_X5_farOf l D k a x7 x4 z11.2 x17 h18) gX5_spread_X5_farOf rfl (by decide +kernel) ⟨⟨rfl, rfl⟩, by decide, by decide⟩ hP 0 5 rfl rfl rfl rfl rfl (Nat.le_of_ble_eq_true rfl) dX5_spread_47 ⟨Nat.zero_le _, Nat.zero_le _⟩ ?_
        refine lv_iadd hx hb dX5_spread_50 ?_
        refine lv_istore_n (lv' := [(3, .int (z11.1 + x17)), (0, .ref (a 0)), (2, .int x4), (4, .int z11.2)]) hx hb dX5_spread_51 rfl hl (by decide) rfl (fun ls hl => ?_)
        refine lv_iinc (v := (z11.2 + 1)) (lv' := [(4, .int (z11.2 + 1)), (3, .int (z11.1 + x17)), (0, .ref (a 0)), (2, .int x4)]) hx hb dX5_spread_52 hl (k := 3) rfl rfl (by decide) rfl (fun ls hl => ?_)
        refine lv_goto (tgt := 33) hx hb dX5_spread_55 (by decide) ?_
        exact kI14 _ (Option.some.inj hB12).symm ls (lv_sub hl [2, 3, 1, 0] rfl)
    · have h := if_t h c6
      refine lv_bipush (v := (-6)) hx hb dX5_spread_20 (by decide) ?_
      obtain rfl := Option.some.inj h
      exact hQ _ _ _ _ dX5_spread_22 hP hS
  · have h := if_t h c3
    refine lv_bipush (v := (-2)) hx hb dX5_spread_7 (by decide) ?_
    obtain rfl := Option.some.inj h
    exact hQ _ _ _ _ dX5_spread_9 hP hS
