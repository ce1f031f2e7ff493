/-! written by wip/whole/gen.py -/
abbrev rm_X5_next : Room := { frames := 4, cells := 0, slots := 0, locals := 99 }
def f_X5_next_L35 (M : ModelV) (y2 : Int32) (y3 : Int32) (z : Int32 × Int32 × Int32) : Option ((Int32 × Int32 × Int32) ⊕ (Int32 × Int32)) := if 256 ≤ z.2.2 then (some (.inr (z.1, z.2.1))) else ((f_X5_isPlot M (z.2.2 - z.2.2 / 16 * 16) (z.2.2 / 16)).bind (fun x10 => (if (b2i x10) = 0 then (some (z.1, z.2.1)) else ((f_X5_gaugeAt M (z.2.2 - z.2.2 / 16 * 16) (z.2.2 / 16)).bind (fun x16 => if 0 ≤ x16 then (some (z.1, z.2.1)) else ((f_X5_spreadWith M y3 (z.2.2 - z.2.2 / 16 * 16) (z.2.2 / 16)).bind (fun x19 => if z.1 < 0 then (some (z.2.2, x19)) else (if z.2.1 ≤ x19 then (some (z.1, z.2.1)) else (some (z.2.2, x19))))))) : Option (Int32 × Int32)).bind (fun x12 => some (.inl (x12.1, x12.2, (z.2.2 + 1))))))
def f_X5_next (M : ModelV) (y1 : Int32) (y2 : Int32) : Option (Int32) := (f_X5_isDay y1).bind (fun x1 => if (b2i x1) = 0 then (some (-2)) else ((f_X5_in y2 0 2).bind (fun x4 => if (b2i x4) = 0 then (some (-2)) else ((f_X5_workingOn M y1).bind (fun x7 => (lp (f_X5_next_L35 M y2 x7) fu ((-6), 0, 0)).bind (fun x9 => if 0 ≤ x9.1 then (if y2 = 0 then (some (x9.1 - x9.1 / 16 * 16)) else (if y2 = 1 then (some (x9.1 / 16)) else (some x9.2))) else (some (-6))))))))
set_option maxHeartbeats 4000000 in
set_option maxRecDepth 100000 in
theorem c_X5_next (l : Launch) (D : va_G) (k : Nat → ClassId) (a : Nat → Nat) (M : ModelV) (y1 : Int32) (y2 : Int32) (r : Int32) (h : f_X5_next M y1 y2 = some r) : Met l yX5_next wsX5_next rm_X5_next (va_Pc [.ref (a 0), .int y1, .int y2] (RB D k (modelW k a M))) (QR (some (.int r))) 0 0 (fun _ => False) := by
  refine met_Ri (by decide) rfl (Nat.le_of_ble_eq_true rfl) ?_
  intro p e s m below meth c Q args ls hx hb hml hown hts hP hK hN hl hQ
  have hl : lv_has ls 8 [(0, .ref (a 0)), (1, .int y1), (2, .int y2)] := hl
  have hown : s.vm.findClass RX5 = some m.cls := hown
  unfold f_X5_next at h
  refine lv_iload_n hx hb dX5_next_0 rfl (lv_at hl 1 rfl) ?_
  obtain ⟨x1, h2, h⟩ := bd_s h
  refine cR_S (As := [.int y1]) (rest := []) (n := 1) (v := .int (b2i x1)) hx hb hml hown hts hK hN hl.1 (c_X5_isDay l D k y1 x1 h2) gX5_next_X5_isDay rfl (by decide +kernel) ⟨⟨rfl, rfl⟩, by decide, by decide⟩ va_P_nil rfl rfl (Nat.le_of_ble_eq_true rfl) dX5_next_1 ⟨Nat.zero_le _, Nat.zero_le _⟩ ?_
  refine lv_if_eq (tgt := 16) hx hb dX5_next_4 (by decide) (fun c3 => ?_) (fun c3 => ?_)
  · have h := if_t h c3
    refine lv_bipush (v := (-2)) hx hb dX5_next_16 (by decide) ?_
    obtain rfl := Option.some.inj h
    exact hQ _ _ dX5_next_18
  · have h := if_f h c3
    refine lv_iload_n hx hb dX5_next_7 rfl (lv_at hl 2 rfl) ?_
    refine lv_iconst (v := 0) hx hb dX5_next_8 (by decide) ?_
    refine lv_iconst (v := 2) hx hb dX5_next_9 (by decide) ?_
    obtain ⟨x4, h5, h⟩ := bd_s h
    refine cR_S (As := [.int y2, .int 0, .int 2]) (rest := []) (n := 3) (v := .int (b2i x4)) hx hb hml hown hts hK hN hl.1 (c_X5_in l D k y2 0 2 x4 h5) gX5_next_X5_in rfl (by decide +kernel) ⟨⟨rfl, rfl⟩, by decide, by decide⟩ va_P_nil rfl rfl (Nat.le_of_ble_eq_true rfl) dX5_next_10 ⟨Nat.zero_le _, Nat.zero_le _⟩ ?_
    refine lv_if_ne (tgt := 19) hx hb dX5_next_13 (by decide) (fun c6 => ?_) (fun c6 => ?_)
    · have h := if_f h c6
      refine lv_aload_n hx hb dX5_next_19 rfl (lv_at hl 0 rfl) ?_
      refine lv_iload_n hx hb dX5_next_20 rfl (lv_at hl 1 rfl) ?_
      obtain ⟨x7, h8, h⟩ := bd_s h
      refine cR_V (As := [.int y1]) (rest := []) (n := 1) (v := .int x7) hx hb hml hown hts hK hN hl.1 (c_X5_workingOn l D k a M y1 x7 h8) gX5_next_X5_workingOn rfl (by decide +kernel) ⟨⟨rfl, rfl⟩, by decide, by decide⟩ hP 0 5 rfl rfl rfl rfl rfl (Nat.le_of_ble_eq_true rfl) dX5_next_21 ⟨Nat.zero_le _, Nat.zero_le _⟩ ?_
      refine lv_istore_n (lv' := [(3, .int x7), (0, .ref (a 0)), (1, .int y1), (2, .int y2)]) hx hb dX5_next_24 rfl hl (by decide) rfl (fun ls hl => ?_)
      refine lv_bipush (v := (-6)) hx hb dX5_next_25 (by decide) ?_
      refine lv_istore (lv' := [(4, .int (-6)), (3, .int x7), (0, .ref (a 0)), (1, .int y1), (2, .int y2)]) hx hb dX5_next_27 hl (by decide) rfl (fun ls hl => ?_)
      refine lv_iconst (v := 0) hx hb dX5_next_29 (by decide) ?_
      refine lv_istore (lv' := [(5, .int 0), (4, .int (-6)), (3, .int x7), (0, .ref (a 0)), (1, .int y1), (2, .int y2)]) hx hb dX5_next_30 hl (by decide) rfl (fun ls hl => ?_)
      refine lv_iconst (v := 0) hx hb dX5_next_32 (by decide) ?_
      refine lv_istore (lv' := [(6, .int 0), (5, .int 0), (4, .int (-6)), (3, .int x7), (0, .ref (a 0)), (1, .int y1), (2, .int y2)]) hx hb dX5_next_33 hl (by decide) rfl (fun ls hl => ?_)
      obtain ⟨x9, h10, h⟩ := bd_s h
      have K33 : ∀ (ls : Array Slot), lv_has ls 8 [(2, .int y2), (4, .int x9.1), (5, .int x9.2)] → W p l e rm_X5_next s m args below meth c s.heap [] 0 0 Q (F0 m 120 ls []) := by
        intro ls hl
        refine lv_iload hx hb dX5_next_120 (lv_at hl 1 rfl) ?_
        refine lv_if_ge (tgt := 130) hx hb dX5_next_122 (by decide) (fun c16 => ?_) (fun c16 => ?_)
        · have h := if_t h c16
          refine lv_iload_n hx hb dX5_next_130 rfl (lv_at hl 0 rfl) ?_
          refine lv_if_ne (tgt := 142) hx hb dX5_next_131 (by decide) (fun c17 => ?_) (fun c17 => ?_)
          · have h := if_f h c17
            refine lv_iload_n hx hb dX5_next_142 rfl (lv_at hl 0 rfl) ?_
            refine lv_iconst (v := 1) hx hb dX5_next_143 (by decide) ?_
            refine lv_icmp_ne (tgt := 155) hx hb dX5_next_144 (by decide) (fun c18 => ?_) (fun c18 => ?_)
            · have h := if_f h c18
              refine lv_iload hx hb dX5_next_155 (lv_at hl 2 rfl) ?_
              obtain rfl := Option.some.inj h
              exact hQ _ _ dX5_next_157
            · have h := if_t h c18
              refine lv_iload hx hb dX5_next_147 (lv_at hl 1 rfl) ?_
              refine lv_bipush (v := 16) hx hb dX5_next_149 (by decide) ?_
              refine lv_idiv hx hb dX5_next_151 (by decide) ?_
              refine lv_goto (tgt := 157) hx hb dX5_next_152 (by decide) ?_
              obtain rfl := Option.some.inj h
              exact hQ _ _ dX5_next_157
          · have h := if_t h c17
            refine lv_iload hx hb dX5_next_134 (lv_at hl 1 rfl) ?_
            refine lv_bipush (v := 16) hx hb dX5_next_136 (by decide) ?_
            refine lv_irem hx hb dX5_next_138 (by decide) ?_
            refine lv_goto (tgt := 157) hx hb dX5_next_139 (by decide) ?_
            obtain rfl := Option.some.inj h
            exact hQ _ _ dX5_next_157
        · have h := if_f h c16
          refine lv_bipush (v := (-6)) hx hb dX5_next_125 (by decide) ?_
          refine lv_goto (tgt := 157) hx hb dX5_next_127 (by decide) ?_
          obtain rfl := Option.some.inj h
          exact hQ _ _ dX5_next_157
      refine lp_W (P := fun z11 => ∀ (ls : Array Slot), lv_has ls 8 [(0, .ref (a 0)), (2, .int y2), (3, .int x7), (4, .int z11.1), (5, .int z11.2.1), (6, .int z11.2.2)] → W p l e rm_X5_next s m args below meth c s.heap [] 0 0 Q (F0 m 35 ls [])) (E := fun x9 => ∀ (ls : Array Slot), lv_has ls 8 [(2, .int y2), (4, .int x9.1), (5, .int x9.2)] → W p l e rm_X5_next s m args below meth c s.heap [] 0 0 Q (F0 m 120 ls [])) (fun z11 xx13 hB12 kI14 kE15 => ?_) _ _ _ h10 K33 ls (lv_sub hl [4, 6, 3, 2, 1, 0] rfl)
      intro ls hl
      unfold f_X5_next_L35 at hB12
      refine lv_iload hx hb dX5_next_35 (lv_at hl 5 rfl) ?_
      refine lv_sipush (v := 256) hx hb dX5_next_37 (by decide) ?_
      refine lv_icmp_ge (tgt := 120) hx hb dX5_next_40 (by decide) (fun c19 => ?_) (fun c19 => ?_)
      · have hB12 := if_t hB12 c19
        exact kE15 _ (Option.some.inj hB12).symm ls (lv_sub hl [1, 3, 4] rfl)
      · have hB12 := if_f hB12 c19
        refine lv_aload_n hx hb dX5_next_43 rfl (lv_at hl 0 rfl) ?_
        refine lv_iload hx hb dX5_next_44 (lv_at hl 5 rfl) ?_
        refine lv_bipush (v := 16) hx hb dX5_next_46 (by decide) ?_
        refine lv_irem hx hb dX5_next_48 (by decide) ?_
        refine lv_iload hx hb dX5_next_49 (lv_at hl 5 rfl) ?_
        refine lv_bipush (v := 16) hx hb dX5_next_51 (by decide) ?_
        refine lv_idiv hx hb dX5_next_53 (by decide) ?_
        obtain ⟨x20, h21, hB12⟩ := bd_s hB12
        refine cR_V (As := [.int (z11.2.2 - z11.2.2 / 16 * 16), .int (z11.2.2 / 16)]) (rest := []) (n := 2) (v := .int (b2i x20)) hx hb hml hown hts hK hN hl.1 (c_X5_isPlot l D k a M (z11.2.2 - z11.2.2 / 16 * 16) (z11.2.2 / 16) x20 h21) gX5_next_X5_isPlot rfl (by decide +kernel) ⟨⟨rfl, rfl⟩, by decide, by decide⟩ hP 0 5 rfl rfl rfl rfl rfl (Nat.le_of_ble_eq_true rfl) dX5_next_54 ⟨Nat.zero_le _, Nat.zero_le _⟩ ?_
        obtain ⟨x22, h23, hB12⟩ := bd_s hB12
        have K24 : ∀ (ls : Array Slot), lv_has ls 8 [(0, .ref (a 0)), (2, .int y2), (3, .int x7), (4, .int x22.1), (5, .int x22.2), (6, .int z11.2.2)] → W p l e rm_X5_next s m args below meth c s.heap [] 0 0 Q (F0 m 114 ls []) := by
          intro ls hl
          refine lv_iinc (v := (z11.2.2 + 1)) (lv' := [(6, .int (z11.2.2 + 1)), (0, .ref (a 0)), (2, .int y2), (3, .int x7), (4, .int x22.1), (5, .int x22.2)]) hx hb dX5_next_114 hl (k := 5) rfl rfl (by decide) rfl (fun ls hl => ?_)
          refine lv_goto (tgt := 35) hx hb dX5_next_117 (by decide) ?_
          exact kI14 _ (Option.some.inj hB12).symm ls (lv_sub hl [1, 2, 3, 4, 5, 0] rfl)
        refine lv_if_eq (tgt := 114) hx hb dX5_next_57 (by decide) (fun c25 => ?_) (fun c25 => ?_)
        · have h23 := if_t h23 c25
          obtain rfl := Option.some.inj h23
          exact K24 ls (lv_sub hl [0, 1, 2, 3, 4, 5] rfl)
        · have h23 := if_f h23 c25
          refine lv_aload_n hx hb dX5_next_60 rfl (lv_at hl 0 rfl) ?_
          refine lv_iload hx hb dX5_next_61 (lv_at hl 5 rfl) ?_
          refine lv_bipush (v := 16) hx hb dX5_next_63 (by decide) ?_
          refine lv_irem hx hb dX5_next_65 (by decide) ?_
          refine lv_iload hx hb dX5_next_66 (lv_at hl 5 rfl) ?_
          refine lv_bipush (v := 16) hx hb dX5_next_68 (by decide) ?_
          refine lv_idiv hx hb dX5_next_70 (by decide) ?_
          obtain ⟨x26, h27, h23⟩ := bd_s h23
          refine cR_V (As := [.int (z11.2.2 - z11.2.2 / 16 * 16), .int (z11.2.2 / 16)]) (rest := []) (n := 2) (v := .int x26) hx hb hml hown hts hK hN hl.1 (c_X5_gaugeAt l D k a M (z11.2.2 - z11.2.2 / 16 * 16) (z11.2.2 / 16) x26 h27) gX5_next_X5_gaugeAt rfl (by decide +kernel) ⟨⟨rfl, rfl⟩, by decide, by decide⟩ hP 0 5 rfl rfl rfl rfl rfl (Nat.le_of_ble_eq_true rfl) dX5_next_71 ⟨Nat.zero_le _, Nat.zero_le _⟩ ?_
          refine lv_if_ge (tgt := 114) hx hb dX5_next_74 (by decide) (fun c28 => ?_) (fun c28 => ?_)
          · have h23 := if_t h23 c28
            obtain rfl := Option.some.inj h23
            exact K24 ls (lv_sub hl [0, 1, 2, 3, 4, 5] rfl)
          · have h23 := if_f h23 c28
            refine lv_aload_n hx hb dX5_next_77 rfl (lv_at hl 0 rfl) ?_
            refine lv_iload_n hx hb dX5_next_78 rfl (lv_at hl 2 rfl) ?_
            refine lv_iload hx hb dX5_next_79 (lv_at hl 5 rfl) ?_
            refine lv_bipush (v := 16) hx hb dX5_next_81 (by decide) ?_
            refine lv_irem hx hb dX5_next_83 (by decide) ?_
            refine lv_iload hx hb dX5_next_84 (lv_at hl 5 rfl) ?_
            refine lv_bipush (v := 16) hx hb dX5_next_86 (by decide) ?_
            refine lv_idiv hx hb dX5_next_88 (by decide) ?_
            obtain ⟨x29, h30, h23⟩ := bd_s h23
            refine cR_V (As := [.int x7, .int (z11.2.2 - z11.2.2 / 16 * 16), .int (z11.2.2 / 16)]) (rest := []) (n := 3) (v := .int x29) hx hb hml hown hts hK hN hl.1 (c_X5_spreadWith l D k a M x7 (z11.2.2 - z11.2.2 / 16 * 16) (z11.2.2 / 16) x29 h30) gX5_next_X5_spreadWith rfl (by decide +kernel) ⟨⟨rfl, rfl⟩, by decide, by decide⟩ hP 0 5 rfl rfl rfl rfl rfl (Nat.le_of_ble_eq_true rfl) dX5_next_89 ⟨Nat.zero_le _, Nat.zero_le _⟩ ?_
            refine lv_istore (lv' := [(7, .int x29), (0, .ref (a 0)), (2, .int y2), (3, .int x7), (4, .int z11.1), (5, .int z11.2.1), (6, .int z11.2.2)]) hx hb dX5_next_92 hl (by decide) rfl (fun ls hl => ?_)
            refine lv_iload hx hb dX5_next_94 (lv_at hl 4 rfl) ?_
            refine lv_if_lt (tgt := 106) hx hb dX5_next_96 (by decide) (fun c31 => ?_) (fun c31 => ?_)
            · have h23 := if_t h23 c31
              refine lv_iload hx hb dX5_next_106 (lv_at hl 6 rfl) ?_
              refine lv_istore (lv' := [(4, .int z11.2.2), (7, .int x29), (0, .ref (a 0)), (2, .int y2), (3, .int x7), (5, .int z11.2.1), (6, .int z11.2.2)]) hx hb dX5_next_108 hl (by decide) rfl (fun ls hl => ?_)
              refine lv_iload hx hb dX5_next_110 (lv_at hl 1 rfl) ?_
              refine lv_istore (lv' := [(5, .int x29), (4, .int z11.2.2), (7, .int x29), (0, .ref (a 0)), (2, .int y2), (3, .int x7), (6, .int z11.2.2)]) hx hb dX5_next_112 hl (by decide) rfl (fun ls hl => ?_)
              obtain rfl := Option.some.inj h23
              exact K24 ls (lv_sub hl [3, 4, 5, 1, 0, 6] rfl)
            · have h23 := if_f h23 c31
              refine lv_iload hx hb dX5_next_99 (lv_at hl 0 rfl) ?_
              refine lv_iload hx hb dX5_next_101 (lv_at hl 5 rfl) ?_
              refine lv_icmp_ge (tgt := 114) hx hb dX5_next_103 (by decide) (fun c32 => ?_) (fun c32 => ?_)
              · have h23 := if_t h23 c32
                obtain rfl := Option.some.inj h23
                exact K24 ls (lv_sub hl [1, 2, 3, 4, 5, 6] rfl)
              · have h23 := if_f h23 c32
                refine lv_iload hx hb dX5_next_106 (lv_at hl 6 rfl) ?_
                refine lv_istore (lv' := [(4, .int z11.2.2), (7, .int x29), (0, .ref (a 0)), (2, .int y2), (3, .int x7), (5, .int z11.2.1), (6, .int z11.2.2)]) hx hb dX5_next_108 hl (by decide) rfl (fun ls hl => ?_)
                refine lv_iload hx hb dX5_next_110 (lv_at hl 1 rfl) ?_
                refine lv_istore (lv' := [(5, .int x29), (4, .int z11.2.2), (7, .int x29), (0, .ref (a 0)), (2, .int y2), (3, .int x7), (6, .int z11.2.2)]) hx hb dX5_next_112 hl (by decide) rfl (fun ls hl => ?_)
                obtain rfl := Option.some.inj h23
                exact K24 ls (lv_sub hl [3, 4, 5, 1, 0, 6] rfl)
    · have h := if_t h c6
      refine lv_bipush (v := (-2)) hx hb dX5_next_16 (by decide) ?_
      obtain rfl := Option.some.inj h
      exact hQ _ _ dX5_next_18

abbrev rm_X5_lookUpBoth : Room := { frames := 1, cells := 0, slots := 0, locals := 24 }
def f_X5_lookUpBoth (M : ModelV) (y1 : Int32) (y2 : Int32) : Option (ModelV) := (f_X5_lookUp M (y1 ||| ((1 : Int32) <<< (y2 &&& 31)))).bind (fun x1 => (f_X5_without y1 y2).bind (fun x3 => (f_X5_lookUp x1 x3).bind (fun x5 => some x5)))
set_option maxHeartbeats 4000000 in
set_option maxRecDepth 100000 in
theorem c_X5_lookUpBoth (l : Launch) (D : va_G) (k : Nat → ClassId) (a : Nat → Nat) (M : ModelV) (y1 : Int32) (y2 : Int32) (r : ModelV) (h : f_X5_lookUpBoth M y1 y2 = some r) : Met l yX5_lookUpBoth wsX5_lookUpBoth rm_X5_lookUpBoth (va_Pc [.ref (a 0), .int y1, .int y2] (MB D k (modelW k a M))) (QM D (modelW k a M) (modelW k a r) none) 0 0 (AD (modelW k a M)) := by
  refine met_Mv (by decide) rfl (Nat.le_of_ble_eq_true rfl) ?_
  intro p e s m below meth c Q args ls hx hb hml hown hts hP hK hN hD hl hQ
  have hl : lv_has ls 3 [(0, .ref (a 0)), (1, .int y1), (2, .int y2)] := hl
  have hown : s.vm.findClass RX5 = some m.cls := hown
  unfold f_X5_lookUpBoth at h
  generalize AD (modelW k a M) = A0 at hD hQ
  have hS : va_S A0 s.heap s.heap [] := va_S.rf
  refine lv_aload_n hx hb dX5_lookUpBoth_0 rfl (lv_at hl 0 rfl) ?_
  refine lv_iload_n hx hb dX5_lookUpBoth_1 rfl (lv_at hl 1 rfl) ?_
  refine lv_iconst (v := 1) hx hb dX5_lookUpBoth_2 (by decide) ?_
  refine lv_iload_n hx hb dX5_lookUpBoth_3 rfl (lv_at hl 2 rfl) ?_
  refine lv_ishl hx hb dX5_lookUpBoth_4 ?_
  refine lv_ior hx hb dX5_lookUpBoth_5 ?_
  obtain ⟨x1, h2, h⟩ := bd_s h
  refine cM_V (As := [.int (y1 ||| ((1 : Int32) <<< (y2 &&& 31)))]) (rest := []) (n := 1) (ov := none) (wc := modelW k a M) (wc' := modelW k a x1) (w1 := modelW k a x1) hx hb hml hown hts hK hN hl.1 hP hD hS (Sp.self (md_ad k a _) (md_ad k a _)) (c_X5_lookUp l D k a M (y1 ||| ((1 : Int32) <<< (y2 &&& 31))) x1 h2) gX5_lookUpBoth_X5_lookUp rfl (by decide +kernel) ⟨⟨rfl, rfl⟩, by decide, by decide⟩ 0 5 rfl rfl rfl rfl rfl (Nat.le_of_ble_eq_true rfl) dX5_lookUpBoth_6 ⟨Nat.zero_le _, Nat.zero_le _⟩ (fun H locs hP hD hS => ?_)
  show W p l e rm_X5_lookUpBoth s m args below meth c H locs 0 0 Q (F0 m 9 ls [])
  refine lv_aload_n hx hb dX5_lookUpBoth_9 rfl (lv_at hl 0 rfl) ?_
  refine lv_iload_n hx hb dX5_lookUpBoth_10 rfl (lv_at hl 1 rfl) ?_
  refine lv_iload_n hx hb dX5_lookUpBoth_11 rfl (lv_at hl 2 rfl) ?_
  obtain ⟨x3, h4, h⟩ := bd_s h
  refine cR_S (As := [.int y1, .int y2]) (rest := [.ref (a 0)]) (n := 2) (v := .int x3) hx hb hml hown hts hK hN hl.1 (c_X5_without l D k y1 y2 x3 h4) gX5_lookUpBoth_X5_without rfl (by decide +kernel) ⟨⟨rfl, rfl⟩, by decide, by decide⟩ va_P_nil rfl rfl (Nat.le_of_ble_eq_true rfl) dX5_lookUpBoth_12 ⟨Nat.zero_le _, Nat.zero_le _⟩ ?_
  obtain ⟨x5, h6, h⟩ := bd_s h
  refine cM_V (As := [.int x3]) (rest := []) (n := 1) (ov := none) (wc := modelW k a x1) (wc' := modelW k a x5) (w1 := modelW k a x5) hx hb hml hown hts hK hN hl.1 hP hD hS (Sp.self (md_ad k a _) (md_ad k a _)) (c_X5_lookUp l D k a x1 x3 x5 h6) gX5_lookUpBoth_X5_lookUp rfl (by decide +kernel) ⟨⟨rfl, rfl⟩, by decide, by decide⟩ 0 5 rfl rfl rfl rfl rfl (Nat.le_of_ble_eq_true rfl) dX5_lookUpBoth_15 ⟨Nat.zero_le _, Nat.zero_le _⟩ (fun H locs hP hD hS => ?_)
  show W p l e rm_X5_lookUpBoth s m args below meth c H locs 0 0 Q (F0 m 18 ls [])
  obtain rfl := Option.some.inj h
  exact hQ _ _ _ _ dX5_lookUpBoth_18 hP hS

abbrev rm_X5_shared : Room := { frames := 4, cells := 0, slots := 0, locals := 97 }
def f_X5_shared (M : ModelV) (y1 : Int32) (y2 : Int32) (y3 : Int32) : Option (Int32 × ModelV) := (f_X5_isGauge M y2).bind (fun x1 => if (b2i x1) = 0 then (some ((-1), M)) else ((f_X5_isGauge M y3).bind (fun x4 => if (b2i x4) = 0 then (some ((-1), M)) else ((f_X5_isDay y1).bind (fun x7 => if (b2i x7) = 0 then (some ((-2), M)) else (if y2 = y3 then (some ((-2), M)) else ((f_X5_workingOn M y1).bind (fun x11 => (f_X5_without x11 y2).bind (fun x13 => if x13 = 0 then (some ((-3), M)) else ((f_X5_lookUpBoth M x11 y2).bind (fun x16 => (f_X5_has x11 y3).bind (fun x18 => if (b2i x18) = 0 then (some (0, x16)) else ((f_X5_sharedOf x16 x11 y2 y3).bind (fun x21 => some (x21, x16)))))))))))))))
set_option maxHeartbeats 4000000 in
set_option maxRecDepth 100000 in
theorem c_X5_shared (l : Launch) (D : va_G) (k : Nat → ClassId) (a : Nat → Nat) (M : ModelV) (y1 : Int32) (y2 : Int32) (y3 : Int32) (r : Int32 × ModelV) (h : f_X5_shared M y1 y2 y3 = some r) : Met l yX5_shared wsX5_shared rm_X5_shared (va_Pc [.ref (a 0), .int y1, .int y2, .int y3] (MB D k (modelW k a M))) (QM D (modelW k a M) (modelW k a r.2) (some (.int r.1))) 0 0 (AD (modelW k a M)) := by
  refine met_Mi (by decide) rfl (Nat.le_of_ble_eq_true rfl) ?_
  intro p e s m below meth c Q args ls hx hb hml hown hts hP hK hN hD hl hQ
  have hl : lv_has ls 5 [(0, .ref (a 0)), (1, .int y1), (2, .int y2), (3, .int y3)] := hl
  have hown : s.vm.findClass RX5 = some m.cls := hown
  unfold f_X5_shared at h
  generalize AD (modelW k a M) = A0 at hD hQ
  have hS : va_S A0 s.heap s.heap [] := va_S.rf
  refine lv_aload_n hx hb dX5_shared_0 rfl (lv_at hl 0 rfl) ?_
  refine lv_iload_n hx hb dX5_shared_1 rfl (lv_at hl 2 rfl) ?_
  obtain ⟨x1, h2, h⟩ := bd_s h
  refine cR_V (As := [.int y2]) (rest := []) (n := 1) (v := .int (b2i x1)) hx hb hml hown hts hK hN hl.1 (c_X5_isGauge l D k a M y2 x1 h2) gX5_shared_X5_isGauge rfl (by decide +kernel) ⟨⟨rfl, rfl⟩, by decide, by decide⟩ hP 0 5 rfl rfl rfl rfl rfl (Nat.le_of_ble_eq_true rfl) dX5_shared_2 ⟨Nat.zero_le _, Nat.zero_le _⟩ ?_
  refine lv_if_eq (tgt := 16) hx hb dX5_shared_5 (by decide) (fun c3 => ?_) (fun c3 => ?_)
  · have h := if_t h c3
    refine lv_iconst (v := (-1)) hx hb dX5_shared_16 (by decide) ?_
    obtain rfl := Option.some.inj h
    exact hQ _ _ _ _ dX5_shared_17 hP hS
  · have h := if_f h c3
    refine lv_aload_n hx hb dX5_shared_8 rfl (lv_at hl 0 rfl) ?_
    refine lv_iload_n hx hb dX5_shared_9 rfl (lv_at hl 3 rfl) ?_
    obtain ⟨x4, h5, h⟩ := bd_s h
    refine cR_V (As := [.int y3]) (rest := []) (n := 1) (v := .int (b2i x4)) hx hb hml hown hts hK hN hl.1 (c_X5_isGauge l D k a M y3 x4 h5) gX5_shared_X5_isGauge rfl (by decide +kernel) ⟨⟨rfl, rfl⟩, by decide, by decide⟩ hP 0 5 rfl rfl rfl rfl rfl (Nat.le_of_ble_eq_true rfl) dX5_shared_10 ⟨Nat.zero_le _, Nat.zero_le _⟩ ?_
    refine lv_if_ne (tgt := 18) hx hb dX5_shared_13 (by decide) (fun c6 => ?_) (fun c6 => ?_)
    · have h := if_f h c6
      refine lv_iload_n hx hb dX5_shared_18 rfl (lv_at hl 1 rfl) ?_
      obtain ⟨x7, h8, h⟩ := bd_s h
      refine cR_S (As := [.int y1]) (rest := []) (n := 1) (v := .int (b2i x7)) hx hb hml hown hts hK hN hl.1 (c_X5_isDay l D k y1 x7 h8) gX5_shared_X5_isDay rfl (by decide +kernel) ⟨⟨rfl, rfl⟩, by decide, by decide⟩ va_P_nil rfl rfl (Nat.le_of_ble_eq_true rfl) dX5_shared_19 ⟨Nat.zero_le _, Nat.zero_le _⟩ ?_
      refine lv_if_eq (tgt := 30) hx hb dX5_shared_22 (by decide) (fun c9 => ?_) (fun c9 => ?_)
      · have h := if_t h c9
        refine lv_bipush (v := (-2)) hx hb dX5_shared_30 (by decide) ?_
        obtain rfl := Option.some.inj h
        exact hQ _ _ _ _ dX5_shared_32 hP hS
      · have h := if_f h c9
        refine lv_iload_n hx hb dX5_shared_25 rfl (lv_at hl 2 rfl) ?_
        refine lv_iload_n hx hb dX5_shared_26 rfl (lv_at hl 3 rfl) ?_
        refine lv_icmp_ne (tgt := 33) hx hb dX5_shared_27 (by decide) (fun c10 => ?_) (fun c10 => ?_)
        · have h := if_f h c10
          refine lv_aload_n hx hb dX5_shared_33 rfl (lv_at hl 0 rfl) ?_
          refine lv_iload_n hx hb dX5_shared_34 rfl (lv_at hl 1 rfl) ?_
          obtain ⟨x11, h12, h⟩ := bd_s h
          refine cR_V (As := [.int y1]) (rest := []) (n := 1) (v := .int x11) hx hb hml hown hts hK hN hl.1 (c_X5_workingOn l D k a M y1 x11 h12) gX5_shared_X5_workingOn rfl (by decide +kernel) ⟨⟨rfl, rfl⟩, by decide, by decide⟩ hP 0 5 rfl rfl rfl rfl rfl (Nat.le_of_ble_eq_true rfl) dX5_shared_35 ⟨Nat.zero_le _, Nat.zero_le _⟩ ?_
          refine lv_istore (lv' := [(4, .int x11), (0, .ref (a 0)), (1, .int y1), (2, .int y2), (3, .int y3)]) hx hb dX5_shared_38 hl (by decide) rfl (fun ls hl => ?_)
          refine lv_iload hx hb dX5_shared_40 (lv_at hl 0 rfl) ?_
          refine lv_iload_n hx hb dX5_shared_42 rfl (lv_at hl 3 rfl) ?_
          obtain ⟨x13, h14, h⟩ := bd_s h
          refine cR_S (As := [.int x11, .int y2]) (rest := []) (n := 2) (v := .int x13) hx hb hml hown hts hK hN hl.1 (c_X5_without l D k x11 y2 x13 h14) gX5_shared_X5_without rfl (by decide +kernel) ⟨⟨rfl, rfl⟩, by decide, by decide⟩ va_P_nil rfl rfl (Nat.le_of_ble_eq_true rfl) dX5_shared_43 ⟨Nat.zero_le _, Nat.zero_le _⟩ ?_
          refine lv_if_ne (tgt := 52) hx hb dX5_shared_46 (by decide) (fun c15 => ?_) (fun c15 => ?_)
          · have h := if_f h c15
            refine lv_aload_n hx hb dX5_shared_52 rfl (lv_at hl 1 rfl) ?_
            refine lv_iload hx hb dX5_shared_53 (lv_at hl 0 rfl) ?_
            refine lv_iload_n hx hb dX5_shared_55 rfl (lv_at hl 3 rfl) ?_
            obtain ⟨x16, h17, h⟩ := bd_s h
            refine cM_V (As := [.int x11, .int y2]) (rest := []) (n := 2) (ov := none) (wc := modelW k a M) (wc' := modelW k a x16) (w1 := modelW k a x16) hx hb hml hown hts hK hN hl.1 hP hD hS (Sp.self (md_ad k a _) (md_ad k a _)) (c_X5_lookUpBoth l D k a M x11 y2 x16 h17) gX5_shared_X5_lookUpBoth rfl (by decide +kernel) ⟨⟨rfl, rfl⟩, by decide, by decide⟩ 0 5 rfl rfl rfl rfl rfl (Nat.le_of_ble_eq_true rfl) dX5_shared_56 ⟨Nat.zero_le _, Nat.zero_le _⟩ (fun H locs hP hD hS => ?_)
            show W p l e rm_X5_shared s m args below meth c H locs 0 0 Q (F0 m 59 ls [])
            refine lv_iload hx hb dX5_shared_59 (lv_at hl 0 rfl) ?_
            refine lv_iload_n hx hb dX5_shared_61 rfl (lv_at hl 4 rfl) ?_
            obtain ⟨x18, h19, h⟩ := bd_s h
            refine cR_S (As := [.int x11, .int y3]) (rest := []) (n := 2) (v := .int (b2i x18)) hx hb hml hown hts hK hN hl.1 (c_X5_has l D k x11 y3 x18 h19) gX5_shared_X5_has rfl (by decide +kernel) ⟨⟨rfl, rfl⟩, by decide, by decide⟩ va_P_nil rfl rfl (Nat.le_of_ble_eq_true rfl) dX5_shared_62 ⟨Nat.zero_le _, Nat.zero_le _⟩ ?_
            refine lv_if_eq (tgt := 79) hx hb dX5_shared_65 (by decide) (fun c20 => ?_) (fun c20 => ?_)
            · have h := if_t h c20
              refine lv_iconst (v := 0) hx hb dX5_shared_79 (by decide) ?_
              obtain rfl := Option.some.inj h
              exact hQ _ _ _ _ dX5_shared_80 hP hS
            · have h := if_f h c20
              refine lv_aload_n hx hb dX5_shared_68 rfl (lv_at hl 1 rfl) ?_
              refine lv_iload hx hb dX5_shared_69 (lv_at hl 0 rfl) ?_
              refine lv_iload_n hx hb dX5_shared_71 rfl (lv_at hl 3 rfl) ?_
              refine lv_iload_n hx hb dX5_shared_72 rfl (lv_at hl 4 rfl) ?_
              obtain ⟨x21, h22, h⟩ := bd_s h
              refine cR_V (As := [.int x11, .int y2, .int y3]) (rest := []) (n := 3) (v := .int x21) hx hb hml hown hts hK hN hl.1 (c_X5_sharedOf l D k a x16 x11 y2 y3 x21 h22) gX5_shared_X5_sharedOf rfl (by decide +kernel) ⟨⟨rfl, rfl⟩, by decide, by decide⟩ hP 0 5 rfl rfl rfl rfl rfl (Nat.le_of_ble_eq_true rfl) dX5_shared_73 ⟨Nat.zero_le _, Nat.zero_le _⟩ ?_
              refine lv_goto (tgt := 80) hx hb dX5_shared_76 (by decide) ?_
              obtain rfl := Option.some.inj h
              exact hQ _ _ _ _ dX5_shared_80 hP hS
          · have h := if_t h c15
            refine lv_bipush (v := (-3)) hx hb dX5_shared_49 (by decide) ?_
            obtain rfl := Option.some.inj h
            exact hQ _ _ _ _ dX5_shared_51 hP hS
        · have h := if_t h c10
          refine lv_bipush (v := (-2)) hx hb dX5_shared_30 (by decide) ?_
          obtain rfl := Option.some.inj h
          exact hQ _ _ _ _ dX5_shared_32 hP hS
    · have h := if_t h c6
      refine lv_iconst (v := (-1)) hx hb dX5_shared_16 (by decide) ?_
      obtain rfl := Option.some.inj h
      exact hQ _ _ _ _ dX5_shared_17 hP hS

abbrev rm_X5_estimate : Room := { frames := 5, cells := 0, slots := 0, locals := 122 }
def f_X5_estimate (M : ModelV) (y1 : Int32) (y2 : Int32) (y3 : Int32) : Option (Int32 × ModelV) := (f_X5_isGauge M y2).bind (fun x1 => if (b2i x1) = 0 then (some ((-1), M)) else ((f_X5_isDay y1).bind (fun x4 => if (b2i x4) = 0 then (some ((-2), M)) else ((f_X5_in y3 0 1).bind (fun x7 => if (b2i x7) = 0 then (some ((-2), M)) else ((f_X5_workingOn M y1).bind (fun x10 => (f_X5_without x10 y2).bind (fun x12 => if x12 = 0 then (some ((-3), M)) else ((f_X5_lookUpBoth M x10 y2).bind (fun x15 => (f_X5_size x15 (x10 ||| ((1 : Int32) <<< (y2 &&& 31))) y2).bind (fun x17 => if x17 = 0 then (some ((-6), x15)) else ((f_X5_sharedWater x15 y1 y2).bind (fun x20 => (f_X5_part x20 x17 y3).bind (fun x22 => some (x22, x15)))))))))))))))
set_option maxHeartbeats 4000000 in
set_option maxRecDepth 100000 in
theorem c_X5_estimate (l : Launch) (D : va_G) (k : Nat → ClassId) (a : Nat → Nat) (M : ModelV) (y1 : Int32) (y2 : Int32) (y3 : Int32) (r : Int32 × ModelV) (h : f_X5_estimate M y1 y2 y3 = some r) : Met l yX5_estimate wsX5_estimate rm_X5_estimate (va_Pc [.ref (a 0), .int y1, .int y2, .int y3] (MB D k (modelW k a M))) (QM D (modelW k a M) (modelW k a r.2) (some (.int r.1))) 0 0 (AD (modelW k a M)) := by
  refine met_Mi (by decide) rfl (Nat.le_of_ble_eq_true rfl) ?_
  intro p e s m below meth c Q args ls hx hb hml hown hts hP hK hN hD hl hQ
  have hl : lv_has ls 6 [(0, .ref (a 0)), (1, .int y1), (2, .int y2), (3, .int y3)] := hl
  have hown : s.vm.findClass RX5 = some m.cls := hown
  unfold f_X5_estimate at h
  generalize AD (modelW k a M) = A0 at hD hQ
  have hS : va_S A0 s.heap s.heap [] := va_S.rf
  refine lv_aload_n hx hb dX5_estimate_0 rfl (lv_at hl 0 rfl) ?_
  refine lv_iload_n hx hb dX5_estimate_1 rfl (lv_at hl 2 rfl) ?_
  obtain ⟨x1, h2, h⟩ := bd_s h
  refine cR_V (As := [.int y2]) (rest := []) (n := 1) (v := .int (b2i x1)) hx hb hml hown hts hK hN hl.1 (c_X5_isGauge l D k a M y2 x1 h2) gX5_estimate_X5_isGauge rfl (by decide +kernel) ⟨⟨rfl, rfl⟩, by decide, by decide⟩ hP 0 5 rfl rfl rfl rfl rfl (Nat.le_of_ble_eq_true rfl) dX5_estimate_2 ⟨Nat.zero_le _, Nat.zero_le _⟩ ?_
  refine lv_if_ne (tgt := 10) hx hb dX5_estimate_5 (by decide) (fun c3 => ?_) (fun c3 => ?_)
  · have h := if_f h c3
    refine lv_iload_n hx hb dX5_estimate_10 rfl (lv_at hl 1 rfl) ?_
    obtain ⟨x4, h5, h⟩ := bd_s h
    refine cR_S (As := [.int y1]) (rest := []) (n := 1) (v := .int (b2i x4)) hx hb hml hown hts hK hN hl.1 (c_X5_isDay l D k y1 x4 h5) gX5_estimate_X5_isDay rfl (by decide +kernel) ⟨⟨rfl, rfl⟩, by decide, by decide⟩ va_P_nil rfl rfl (Nat.le_of_ble_eq_true rfl) dX5_estimate_11 ⟨Nat.zero_le _, Nat.zero_le _⟩ ?_
    refine lv_if_eq (tgt := 26) hx hb dX5_estimate_14 (by decide) (fun c6 => ?_) (fun c6 => ?_)
    · have h := if_t h c6
      refine lv_bipush (v := (-2)) hx hb dX5_estimate_26 (by decide) ?_
      obtain rfl := Option.some.inj h
      exact hQ _ _ _ _ dX5_estimate_28 hP hS
    · have h := if_f h c6
      refine lv_iload_n hx hb dX5_estimate_17 rfl (lv_at hl 3 rfl) ?_
      refine lv_iconst (v := 0) hx hb dX5_estimate_18 (by decide) ?_
      refine lv_iconst (v := 1) hx hb dX5_estimate_19 (by decide) ?_
      obtain ⟨x7, h8, h⟩ := bd_s h
      refine cR_S (As := [.int y3, .int 0, .int 1]) (rest := []) (n := 3) (v := .int (b2i x7)) hx hb hml hown hts hK hN hl.1 (c_X5_in l D k y3 0 1 x7 h8) gX5_estimate_X5_in rfl (by decide +kernel) ⟨⟨rfl, rfl⟩, by decide, by decide⟩ va_P_nil rfl rfl (Nat.le_of_ble_eq_true rfl) dX5_estimate_20 ⟨Nat.zero_le _, Nat.zero_le _⟩ ?_
      refine lv_if_ne (tgt := 29) hx hb dX5_estimate_23 (by decide) (fun c9 => ?_) (fun c9 => ?_)
      · have h := if_f h c9
        refine lv_aload_n hx hb dX5_estimate_29 rfl (lv_at hl 0 rfl) ?_
        refine lv_iload_n hx hb dX5_estimate_30 rfl (lv_at hl 1 rfl) ?_
        obtain ⟨x10, h11, h⟩ := bd_s h
        refine cR_V (As := [.int y1]) (rest := []) (n := 1) (v := .int x10) hx hb hml hown hts hK hN hl.1 (c_X5_workingOn l D k a M y1 x10 h11) gX5_estimate_X5_workingOn rfl (by decide +kernel) ⟨⟨rfl, rfl⟩, by decide, by decide⟩ hP 0 5 rfl rfl rfl rfl rfl (Nat.le_of_ble_eq_true rfl) dX5_estimate_31 ⟨Nat.zero_le _, Nat.zero_le _⟩ ?_
        refine lv_istore (lv' := [(4, .int x10), (0, .ref (a 0)), (1, .int y1), (2, .int y2), (3, .int y3)]) hx hb dX5_estimate_34 hl (by decide) rfl (fun ls hl => ?_)
        refine lv_iload hx hb dX5_estimate_36 (lv_at hl 0 rfl) ?_
        refine lv_iload_n hx hb dX5_estimate_38 rfl (lv_at hl 3 rfl) ?_
        obtain ⟨x12, h13, h⟩ := bd_s h
        refine cR_S (As := [.int x10, .int y2]) (rest := []) (n := 2) (v := .int x12) hx hb hml hown hts hK hN hl.1 (c_X5_without l D k x10 y2 x12 h13) gX5_estimate_X5_without rfl (by decide +kernel) ⟨⟨rfl, rfl⟩, by decide, by decide⟩ va_P_nil rfl rfl (Nat.le_of_ble_eq_true rfl) dX5_estimate_39 ⟨Nat.zero_le _, Nat.zero_le _⟩ ?_
        refine lv_if_ne (tgt := 48) hx hb dX5_estimate_42 (by decide) (fun c14 => ?_) (fun c14 => ?_)
        · have h := if_f h c14
          refine lv_aload_n hx hb dX5_estimate_48 rfl (lv_at hl 1 rfl) ?_
          refine lv_iload hx hb dX5_estimate_49 (lv_at hl 0 rfl) ?_
          refine lv_iload_n hx hb dX5_estimate_51 rfl (lv_at hl 3 rfl) ?_
          obtain ⟨x15, h16, h⟩ := bd_s h
          refine cM_V (As := [.int x10, .int y2]) (rest := []) (n := 2) (ov := none) (wc := modelW k a M) (wc' := modelW k a x15) (w1 := modelW k a x15) hx hb hml hown hts hK hN hl.1 hP hD hS (Sp.self (md_ad k a _) (md_ad k a _)) (c_X5_lookUpBoth l D k a M x10 y2 x15 h16) gX5_estimate_X5_lookUpBoth rfl (by decide +kernel) ⟨⟨rfl, rfl⟩, by decide, by decide⟩ 0 5 rfl rfl rfl rfl rfl (Nat.le_of_ble_eq_true rfl) dX5_estimate_52 ⟨Nat.zero_le _, Nat.zero_le _⟩ (fun H locs hP hD hS => ?_)
          show W p l e rm_X5_estimate s m args below meth c H locs 0 0 Q (F0 m 55 ls [])
          refine lv_aload_n hx hb dX5_estimate_55 rfl (lv_at hl 1 rfl) ?_
          refine lv_iload hx hb dX5_estimate_56 (lv_at hl 0 rfl) ?_
          refine lv_iconst (v := 1) hx hb dX5_estimate_58 (by decide) ?_
          refine lv_iload_n hx hb dX5_estimate_59 rfl (lv_at hl 3 rfl) ?_
          refine lv_ishl hx hb dX5_estimate_60 ?_
          refine lv_ior hx hb dX5_estimate_61 ?_
          refine lv_iload_n hx hb dX5_estimate_62 rfl (lv_at hl 3 rfl) ?_
          obtain ⟨x17, h18, h⟩ := bd_s h
          refine cR_V (As := [.int (x10 ||| ((1 : Int32) <<< (y2 &&& 31))), .int y2]) (rest := []) (n := 2) (v := .int x17) hx hb hml hown hts hK hN hl.1 (c_X5_size l D k a x15 (x10 ||| ((1 : Int32) <<< (y2 &&& 31))) y2 x17 h18) gX5_estimate_X5_size rfl (by decide +kernel) ⟨⟨rfl, rfl⟩, by decide, by decide⟩ hP 0 5 rfl rfl rfl rfl rfl (Nat.le_of_ble_eq_true rfl) dX5_estimate_63 ⟨Nat.zero_le _, Nat.zero_le _⟩ ?_
          refine lv_istore (lv' := [(5, .int x17), (4, .int x10), (0, .ref (a 0)), (1, .int y1), (2, .int y2), (3, .int y3)]) hx hb dX5_estimate_66 hl (by decide) rfl (fun ls hl => ?_)
          refine lv_iload hx hb dX5_estimate_68 (lv_at hl 0 rfl) ?_
          refine lv_if_ne (tgt := 78) hx hb dX5_estimate_70 (by decide) (fun c19 => ?_) (fun c19 => ?_)
          · have h := if_f h c19
            refine lv_aload_n hx hb dX5_estimate_78 rfl (lv_at hl 2 rfl) ?_
            refine lv_iload_n hx hb dX5_estimate_79 rfl (lv_at hl 3 rfl) ?_
            refine lv_iload_n hx hb dX5_estimate_80 rfl (lv_at hl 4 rfl) ?_
            obtain ⟨x20, h21, h⟩ := bd_s h
            refine cR_V (As := [.int y1, .int y2]) (rest := []) (n := 2) (v := .int x20) hx hb hml hown hts hK hN hl.1 (c_X5_sharedWater l D k a x15 y1 y2 x20 h21) gX5_estimate_X5_sharedWater rfl (by decide +kernel) ⟨⟨rfl, rfl⟩, by decide, by decide⟩ hP 0 5 rfl rfl rfl rfl rfl (Nat.le_of_ble_eq_true rfl) dX5_estimate_81 ⟨Nat.zero_le _, Nat.zero_le _⟩ ?_
            refine lv_iload hx hb dX5_estimate_84 (lv_at hl 0 rfl) ?_
            refine lv_iload_n hx hb dX5_estimate_86 rfl (lv_at hl 5 rfl) ?_
            obtain ⟨x22, h23, h⟩ := bd_s h
            refine cR_S (As := [.int x20, .int x17, .int y3]) (rest := []) (n := 3) (v := .int x22) hx hb hml hown hts hK hN hl.1 (c_X5_part l D k x20 x17 y3 x22 h23) gX5_estimate_X5_part rfl (by decide +kernel) ⟨⟨rfl, rfl⟩, by decide, by decide⟩ va_P_nil rfl rfl (Nat.le_of_ble_eq_true rfl) dX5_estimate_87 ⟨Nat.zero_le _, Nat.zero_le _⟩ ?_
            obtain rfl := Option.some.inj h
            exact hQ _ _ _ _ dX5_estimate_90 hP hS
          · have h := if_t h c19
            refine lv_bipush (v := (-6)) hx hb dX5_estimate_73 (by decide) ?_
            refine lv_goto (tgt := 90) hx hb dX5_estimate_75 (by decide) ?_
            obtain rfl := Option.some.inj h
            exact hQ _ _ _ _ dX5_estimate_90 hP hS
        · have h := if_t h c14
          refine lv_bipush (v := (-3)) hx hb dX5_estimate_45 (by decide) ?_
          obtain rfl := Option.some.inj h
          exact hQ _ _ _ _ dX5_estimate_47 hP hS
      · have h := if_t h c9
        refine lv_bipush (v := (-2)) hx hb dX5_estimate_26 (by decide) ?_
        obtain rfl := Option.some.inj h
        exact hQ _ _ _ _ dX5_estimate_28 hP hS
  · have h := if_t h c3
    refine lv_iconst (v := (-1)) hx hb dX5_estimate_8 (by decide) ?_
    obtain rfl := Option.some.inj h
    exact hQ _ _ _ _ dX5_estimate_9 hP hS

abbrev rm_X5_doubt : Room := { frames := 5, cells := 0, slots := 0, locals := 122 }
def f_X5_doubt_L33 (y1 : Int32) (y2 : Int32) (y3 : Int32) (z : Int32 × Int32 × ModelV) : Option ((Int32 × Int32 × ModelV) ⊕ (Int32 × ModelV)) := if (z.2.2).2.2.1 ≤ z.2.1 then (some (.inr (z.1, z.2.2))) else ((f_X5_has y3 z.2.1).bind (fun x10 => (if (b2i x10) = 0 then (some (z.1, z.2.2)) else ((f_X5_without y3 z.2.1).bind (fun x16 => if x16 = 0 then (some (z.1, z.2.2)) else ((f_X5_lookUpBoth z.2.2 y3 z.2.1).bind (fun x19 => (f_X5_size x19 y3 z.2.1).bind (fun x21 => gd (ix ((64 * z.2.1) + y1) 512) ((f_X5_sharedWater x19 y1 z.2.1).bind (fun x24 => (if (y2 * x21) < (((x19.2.2.2.2.2.2.2.1 (((64 * z.2.1) + y1) : Int32).toNatClampNeg) * x21) - x24) then (some ((1 : Int32) <<< (z.2.1 &&& 31))) else (if (-(((x19.2.2.2.2.2.2.2.1 (((64 * z.2.1) + y1) : Int32).toNatClampNeg) * x21) - x24)) ≤ (y2 * x21) then (some 0) else (some ((1 : Int32) <<< (z.2.1 &&& 31)))) : Option (Int32)).bind (fun x26 => some ((z.1 ||| x26), x19))))))))) : Option (Int32 × ModelV)).bind (fun x12 => some (.inl (x12.1, (z.2.1 + 1), x12.2)))))
def f_X5_doubt (M : ModelV) (y1 : Int32) (y2 : Int32) : Option (Int32 × ModelV) := (f_X5_isDay y1).bind (fun x1 => if (b2i x1) = 0 then (some ((-2), M)) else ((f_X5_in y2 0 9999).bind (fun x4 => if (b2i x4) = 0 then (some ((-2), M)) else ((f_X5_workingOn M y1).bind (fun x7 => (lp (f_X5_doubt_L33 y1 y2 x7) fu (0, 0, M)).bind (fun x9 => some (x9.1, x9.2)))))))
set_option maxHeartbeats 4000000 in
set_option maxRecDepth 100000 in
theorem c_X5_doubt (l : Launch) (D : va_G) (k : Nat → ClassId) (a : Nat → Nat) (M : ModelV) (y1 : Int32) (y2 : Int32) (r : Int32 × ModelV) (h : f_X5_doubt M y1 y2 = some r) : Met l yX5_doubt wsX5_doubt rm_X5_doubt (va_Pc [.ref (a 0), .int y1, .int y2] (MB D k (modelW k a M))) (QM D (modelW k a M) (modelW k a r.2) (some (.int r.1))) 0 0 (AD (modelW k a M)) := by
  refine met_Mi (by decide) rfl (Nat.le_of_ble_eq_true rfl) ?_
  intro p e s m below meth c Q args ls hx hb hml hown hts hP hK hN hD hl hQ
  have hl : lv_has ls 8 [(0, .ref (a 0)), (1, .int y1), (2, .int y2)] := hl
  have hown : s.vm.findClass RX5 = some m.cls := hown
  unfold f_X5_doubt at h
  have hiRX5 : ∀ w ∈ u_ws RX5 TX5 19, w ∈ wsX5_doubt := by decide +kernel
  have hf53 := hts (.fieldLink RX5 53 "RainCellsModel" "many" "I") (by decide +kernel)
  have hf29 := hts (.fieldLink RX5 29 "RainCellsModel" "readings" "[I") (by decide +kernel)
  generalize AD (modelW k a M) = A0 at hD hQ
  have hS : va_S A0 s.heap s.heap [] := va_S.rf
  refine lv_iload_n hx hb dX5_doubt_0 rfl (lv_at hl 1 rfl) ?_
  obtain ⟨x1, h2, h⟩ := bd_s h
  refine cR_S (As := [.int y1]) (rest := []) (n := 1) (v := .int (b2i x1)) hx hb hml hown hts hK hN hl.1 (c_X5_isDay l D k y1 x1 h2) gX5_doubt_X5_isDay rfl (by decide +kernel) ⟨⟨rfl, rfl⟩, by decide, by decide⟩ va_P_nil rfl rfl (Nat.le_of_ble_eq_true rfl) dX5_doubt_1 ⟨Nat.zero_le _, Nat.zero_le _⟩ ?_
  refine lv_if_eq (tgt := 18) hx hb dX5_doubt_4 (by decide) (fun c3 => ?_) (fun c3 => ?_)
  · have h := if_t h c3
    refine lv_bipush (v := (-2)) hx hb dX5_doubt_18 (by decide) ?_
    obtain rfl := Option.some.inj h
    exact hQ _ _ _ _ dX5_doubt_20 hP hS
  · have h := if_f h c3
    refine lv_iload_n hx hb dX5_doubt_7 rfl (lv_at hl 2 rfl) ?_
    refine lv_iconst (v := 0) hx hb dX5_doubt_8 (by decide) ?_
    refine lv_sipush (v := 9999) hx hb dX5_doubt_9 (by decide) ?_
    obtain ⟨x4, h5, h⟩ := bd_s h
    refine cR_S (As := [.int y2, .int 0, .int 9999]) (rest := []) (n := 3) (v := .int (b2i x4)) hx hb hml hown hts hK hN hl.1 (c_X5_in l D k y2 0 9999 x4 h5) gX5_doubt_X5_in rfl (by decide +kernel) ⟨⟨rfl, rfl⟩, by decide, by decide⟩ va_P_nil rfl rfl (Nat.le_of_ble_eq_true rfl) dX5_doubt_12 ⟨Nat.zero_le _, Nat.zero_le _⟩ ?_
    refine lv_if_ne (tgt := 21) hx hb dX5_doubt_15 (by decide) (fun c6 => ?_) (fun c6 => ?_)
    · have h := if_f h c6
      refine lv_aload_n hx hb dX5_doubt_21 rfl (lv_at hl 0 rfl) ?_
      refine lv_iload_n hx hb dX5_doubt_22 rfl (lv_at hl 1 rfl) ?_
      obtain ⟨x7, h8, h⟩ := bd_s h
      refine cR_V (As := [.int y1]) (rest := []) (n := 1) (v := .int x7) hx hb hml hown hts hK hN hl.1 (c_X5_workingOn l D k a M y1 x7 h8) gX5_doubt_X5_workingOn rfl (by decide +kernel) ⟨⟨rfl, rfl⟩, by decide, by decide⟩ hP 0 5 rfl rfl rfl rfl rfl (Nat.le_of_ble_eq_true rfl) dX5_doubt_23 ⟨Nat.zero_le _, Nat.zero_le _⟩ ?_
      refine lv_istore_n (lv' := [(3, .int x7), (0, .ref (a 0)), (1, .int y1), (2, .int y2)]) hx hb dX5_doubt_26 rfl hl (by decide) rfl (fun ls hl => ?_)
      refine lv_iconst (v := 0) hx hb dX5_doubt_27 (by decide) ?_
      refine lv_istore (lv' := [(4, .int 0), (3, .int x7), (0, .ref (a 0)), (1, .int y1), (2, .int y2)]) hx hb dX5_doubt_28 hl (by decide) rfl (fun ls hl => ?_)
      refine lv_iconst (v := 0) hx hb dX5_doubt_30 (by decide) ?_
      refine lv_istore (lv' := [(5, .int 0), (4, .int 0), (3, .int x7), (0, .ref (a 0)), (1, .int y1), (2, .int y2)]) hx hb dX5_doubt_31 hl (by decide) rfl (fun ls hl => ?_)
      obtain ⟨x9, h10, h⟩ := bd_s h
      have K38 : ∀ (ls : Array Slot) (H : Heap) (locs : List Loc), lv_has ls 8 [(4, .int x9.1)] → va_P D vwCl (modelW k a x9.2) H → va_D A0 (modelW k a x9.2) → va_S A0 s.heap H locs → W p l e rm_X5_doubt s m args below meth c H locs 0 0 Q (F0 m 139 ls []) := by
        intro ls H locs hl hP hD hS
        refine lv_iload hx hb dX5_doubt_139 (lv_at hl 0 rfl) ?_
        obtain rfl := Option.some.inj h
        exact hQ _ _ _ _ dX5_doubt_141 hP hS
      refine lp_W (P := fun z11 => ∀ (ls : Array Slot) (H : Heap) (locs : List Loc), lv_has ls 8 [(0, .ref (a 0)), (1, .int y1), (2, .int y2), (3, .int x7), (4, .int z11.1), (5, .int z11.2.1)] → va_P D vwCl (modelW k a z11.2.2) H → va_D A0 (modelW k a z11.2.2) → va_S A0 s.heap H locs → W p l e rm_X5_doubt s m args below meth c H locs 0 0 Q (F0 m 33 ls [])) (E := fun x9 => ∀ (ls : Array Slot) (H : Heap) (locs : List Loc), lv_has ls 8 [(4, .int x9.1)] → va_P D vwCl (modelW k a x9.2) H → va_D A0 (modelW k a x9.2) → va_S A0 s.heap H locs → W p l e rm_X5_doubt s m args below meth c H locs 0 0 Q (F0 m 139 ls [])) (fun z11 xx13 hB12 kI14 kE15 => ?_) _ _ _ h10 K38 ls s.heap [] (lv_sub hl [3, 4, 5, 2, 1, 0] rfl) hP hD hS
      intro ls H locs hl hP hD hS
      unfold f_X5_doubt_L33 at hB12
      refine lv_iload hx hb dX5_doubt_33 (lv_at hl 5 rfl) ?_
      refine lv_aload_n hx hb dX5_doubt_35 rfl (lv_at hl 0 rfl) ?_
      refine va_get (D := D) (ci := 5) (v := .int ((z11.2.2).2.2.1)) (C := RX5) (T := TX5) (N := 19) hx hb hts hiRX5 hown hK hP 0 rfl rfl 2 (by decide) hf53 (fun _ h9 => h9) rfl dX5_doubt_36 ?_
      refine lv_icmp_ge (tgt := 139) hx hb dX5_doubt_39 (by decide) (fun c16 => ?_) (fun c16 => ?_)
      · have hB12 := if_t hB12 c16
        exact kE15 _ (Option.some.inj hB12).symm ls H locs (lv_sub hl [4] rfl) hP hD hS
      · have hB12 := if_f hB12 c16
        refine lv_iload_n hx hb dX5_doubt_42 rfl (lv_at hl 3 rfl) ?_
        refine lv_iload hx hb dX5_doubt_43 (lv_at hl 5 rfl) ?_
        obtain ⟨x17, h18, hB12⟩ := bd_s hB12
        refine cR_S (As := [.int x7, .int z11.2.1]) (rest := []) (n := 2) (v := .int (b2i x17)) hx hb hml hown hts hK hN hl.1 (c_X5_has l D k x7 z11.2.1 x17 h18) gX5_doubt_X5_has rfl (by decide +kernel) ⟨⟨rfl, rfl⟩, by decide, by decide⟩ va_P_nil rfl rfl (Nat.le_of_ble_eq_true rfl) dX5_doubt_45 ⟨Nat.zero_le _, Nat.zero_le _⟩ ?_
        obtain ⟨x19, h20, hB12⟩ := bd_s hB12
        have K21 : ∀ (ls : Array Slot) (H : Heap) (locs : List Loc), lv_has ls 8 [(0, .ref (a 0)), (1, .int y1), (2, .int y2), (3, .int x7), (4, .int x19.1), (5, .int z11.2.1)] → va_P D vwCl (modelW k a x19.2) H → va_D A0 (modelW k a x19.2) → va_S A0 s.heap H locs → W p l e rm_X5_doubt s m args below meth c H locs 0 0 Q (F0 m 133 ls []) := by
          intro ls H locs hl hP hD hS
          refine lv_iinc (v := (z11.2.1 + 1)) (lv' := [(5, .int (z11.2.1 + 1)), (0, .ref (a 0)), (1, .int y1), (2, .int y2), (3, .int x7), (4, .int x19.1)]) hx hb dX5_doubt_133 hl (k := 5) rfl rfl (by decide) rfl (fun ls hl => ?_)
          refine lv_goto (tgt := 33) hx hb dX5_doubt_136 (by decide) ?_
          exact kI14 _ (Option.some.inj hB12).symm ls H locs (lv_sub hl [1, 2, 3, 4, 5, 0] rfl) hP hD hS
        refine lv_if_eq (tgt := 133) hx hb dX5_doubt_48 (by decide) (fun c22 => ?_) (fun c22 => ?_)
        · have h20 := if_t h20 c22
          obtain rfl := Option.some.inj h20
          exact K21 ls H locs (lv_sub hl [0, 1, 2, 3, 4, 5] rfl) hP hD hS
        · have h20 := if_f h20 c22
          refine lv_iload_n hx hb dX5_doubt_51 rfl (lv_at hl 3 rfl) ?_
          refine lv_iload hx hb dX5_doubt_52 (lv_at hl 5 rfl) ?_
          obtain ⟨x23, h24, h20⟩ := bd_s h20
          refine cR_S (As := [.int x7, .int z11.2.1]) (rest := []) (n := 2) (v := .int x23) hx hb hml hown hts hK hN hl.1 (c_X5_without l D k x7 z11.2.1 x23 h24) gX5_doubt_X5_without rfl (by decide +kernel) ⟨⟨rfl, rfl⟩, by decide, by decide⟩ va_P_nil rfl rfl (Nat.le_of_ble_eq_true rfl) dX5_doubt_54 ⟨Nat.zero_le _, Nat.zero_le _⟩ ?_
          refine lv_if_eq (tgt := 133) hx hb dX5_doubt_57 (by decide) (fun c25 => ?_) (fun c25 => ?_)
          · have h20 := if_t h20 c25
            obtain rfl := Option.some.inj h20
            exact K21 ls H locs (lv_sub hl [0, 1, 2, 3, 4, 5] rfl) hP hD hS
          · have h20 := if_f h20 c25
            refine lv_aload_n hx hb dX5_doubt_60 rfl (lv_at hl 0 rfl) ?_
            refine lv_iload_n hx hb dX5_doubt_61 rfl (lv_at hl 3 rfl) ?_
            refine lv_iload hx hb dX5_doubt_62 (lv_at hl 5 rfl) ?_
            obtain ⟨x26, h27, h20⟩ := bd_s h20
            refine cM_V (As := [.int x7, .int z11.2.1]) (rest := []) (n := 2) (ov := none) (wc := modelW k a z11.2.2) (wc' := modelW k a x26) (w1 := modelW k a x26) hx hb hml hown hts hK hN hl.1 hP hD hS (Sp.self (md_ad k a _) (md_ad k a _)) (c_X5_lookUpBoth l D k a z11.2.2 x7 z11.2.1 x26 h27) gX5_doubt_X5_lookUpBoth rfl (by decide +kernel) ⟨⟨rfl, rfl⟩, by decide, by decide⟩ 0 5 rfl rfl rfl rfl rfl (Nat.le_of_ble_eq_true rfl) dX5_doubt_64 ⟨Nat.zero_le _, Nat.zero_le _⟩ (fun H locs hP hD hS => ?_)
            show W p l e rm_X5_doubt s m args below meth c H locs 0 0 Q (F0 m 67 ls [])
            refine lv_aload_n hx hb dX5_doubt_67 rfl (lv_at hl 0 rfl) ?_
            refine lv_iload_n hx hb dX5_doubt_68 rfl (lv_at hl 3 rfl) ?_
            refine lv_iload hx hb dX5_doubt_69 (lv_at hl 5 rfl) ?_
            obtain ⟨x28, h29, h20⟩ := bd_s h20
            refine cR_V (As := [.int x7, .int z11.2.1]) (rest := []) (n := 2) (v := .int x28) hx hb hml hown hts hK hN hl.1 (c_X5_size l D k a x26 x7 z11.2.1 x28 h29) gX5_doubt_X5_size rfl (by decide +kernel) ⟨⟨rfl, rfl⟩, by decide, by decide⟩ hP 0 5 rfl rfl rfl rfl rfl (Nat.le_of_ble_eq_true rfl) dX5_doubt_71 ⟨Nat.zero_le _, Nat.zero_le _⟩ ?_
            refine lv_istore (lv' := [(6, .int x28), (0, .ref (a 0)), (1, .int y1), (2, .int y2), (3, .int x7), (4, .int z11.1), (5, .int z11.2.1)]) hx hb dX5_doubt_74 hl (by decide) rfl (fun ls hl => ?_)
            refine lv_aload_n hx hb dX5_doubt_76 rfl (lv_at hl 1 rfl) ?_
            refine va_get (D := D) (ci := 5) (v := .ref (a 7)) (C := RX5) (T := TX5) (N := 19) hx hb hts hiRX5 hown hK hP 0 rfl rfl 7 (by decide) hf29 (fun _ h9 => h9) rfl dX5_doubt_77 ?_
            refine lv_bipush (v := 64) hx hb dX5_doubt_80 (by decide) ?_
            refine lv_iload hx hb dX5_doubt_82 (lv_at hl 6 rfl) ?_
            refine lv_imul hx hb dX5_doubt_84 ?_
            refine lv_iload_n hx hb dX5_doubt_85 rfl (lv_at hl 2 rfl) ?_
            refine lv_iadd hx hb dX5_doubt_86 ?_
            obtain ⟨c30, h20⟩ := gd_s h20
            refine va_iald (D := D) hx hb hK hP 7 0 rfl rfl (ix_in c30) dX5_doubt_87 ?_
            refine lv_iload hx hb dX5_doubt_88 (lv_at hl 0 rfl) ?_
            refine lv_imul hx hb dX5_doubt_90 ?_
            refine lv_aload_n hx hb dX5_doubt_91 rfl (lv_at hl 1 rfl) ?_
            refine lv_iload_n hx hb dX5_doubt_92 rfl (lv_at hl 2 rfl) ?_
            refine lv_iload hx hb dX5_doubt_93 (lv_at hl 6 rfl) ?_
            obtain ⟨x31, h32, h20⟩ := bd_s h20
            refine cR_V (As := [.int y1, .int z11.2.1]) (rest := [.int ((x26.2.2.2.2.2.2.2.1 (((64 * z11.2.1) + y1) : Int32).toNatClampNeg) * x28)]) (n := 2) (v := .int x31) hx hb hml hown hts hK hN hl.1 (c_X5_sharedWater l D k a x26 y1 z11.2.1 x31 h32) gX5_doubt_X5_sharedWater rfl (by decide +kernel) ⟨⟨rfl, rfl⟩, by decide, by decide⟩ hP 0 5 rfl rfl rfl rfl rfl (Nat.le_of_ble_eq_true rfl) dX5_doubt_95 ⟨Nat.zero_le _, Nat.zero_le _⟩ ?_
            refine lv_isub hx hb dX5_doubt_98 ?_
            refine lv_istore (lv' := [(7, .int (((x26.2.2.2.2.2.2.2.1 (((64 * z11.2.1) + y1) : Int32).toNatClampNeg) * x28) - x31)), (6, .int x28), (0, .ref (a 0)), (1, .int y1), (2, .int y2), (3, .int x7), (4, .int z11.1), (5, .int z11.2.1)]) hx hb dX5_doubt_99 hl (by decide) rfl (fun ls hl => ?_)
            refine lv_iload hx hb dX5_doubt_101 (lv_at hl 6 rfl) ?_
            refine lv_iload hx hb dX5_doubt_103 (lv_at hl 0 rfl) ?_
            refine lv_iload_n hx hb dX5_doubt_105 rfl (lv_at hl 4 rfl) ?_
            refine lv_iload hx hb dX5_doubt_106 (lv_at hl 1 rfl) ?_
            refine lv_imul hx hb dX5_doubt_108 ?_
            obtain ⟨x33, h34, h20⟩ := bd_s h20
            have K35 : W p l e rm_X5_doubt s m args below meth c H locs 0 0 Q (F0 m 130 ls [.int x33, .int z11.1]) := by
              refine lv_ior hx hb dX5_doubt_130 ?_
              refine lv_istore (lv' := [(4, .int (z11.1 ||| x33)), (7, .int (((x26.2.2.2.2.2.2.2.1 (((64 * z11.2.1) + y1) : Int32).toNatClampNeg) * x28) - x31)), (6, .int x28), (0, .ref (a 0)), (1, .int y1), (2, .int y2), (3, .int x7), (5, .int z11.2.1)]) hx hb dX5_doubt_131 hl (by decide) rfl (fun ls hl => ?_)
              obtain rfl := Option.some.inj h20
              exact K21 ls H locs (lv_sub hl [3, 4, 5, 6, 0, 7] rfl) hP hD hS
            refine lv_icmp_gt (tgt := 122) hx hb dX5_doubt_109 (by decide) (fun c36 => ?_) (fun c36 => ?_)
            · have h34 := if_t h34 c36
              refine lv_iconst (v := 1) hx hb dX5_doubt_122 (by decide) ?_
              refine lv_iload hx hb dX5_doubt_123 (lv_at hl 7 rfl) ?_
              refine lv_ishl hx hb dX5_doubt_125 ?_
              refine lv_goto (tgt := 130) hx hb dX5_doubt_126 (by decide) ?_
              obtain rfl := Option.some.inj h34
              exact K35
            · have h34 := if_f h34 c36
              refine lv_iload hx hb dX5_doubt_112 (lv_at hl 0 rfl) ?_
              refine lv_ineg hx hb dX5_doubt_114 ?_
              refine lv_iload_n hx hb dX5_doubt_115 rfl (lv_at hl 4 rfl) ?_
              refine lv_iload hx hb dX5_doubt_116 (lv_at hl 1 rfl) ?_
              refine lv_imul hx hb dX5_doubt_118 ?_
              refine lv_icmp_le (tgt := 129) hx hb dX5_doubt_119 (by decide) (fun c37 => ?_) (fun c37 => ?_)
              · have h34 := if_t h34 c37
                refine lv_iconst (v := 0) hx hb dX5_doubt_129 (by decide) ?_
                obtain rfl := Option.some.inj h34
                exact K35
              · have h34 := if_f h34 c37
                refine lv_iconst (v := 1) hx hb dX5_doubt_122 (by decide) ?_
                refine lv_iload hx hb dX5_doubt_123 (lv_at hl 7 rfl) ?_
                refine lv_ishl hx hb dX5_doubt_125 ?_
                refine lv_goto (tgt := 130) hx hb dX5_doubt_126 (by decide) ?_
                obtain rfl := Option.some.inj h34
                exact K35
    · have h := if_t h c6
      refine lv_bipush (v := (-2)) hx hb dX5_doubt_18 (by decide) ?_
      obtain rfl := Option.some.inj h
      exact hQ _ _ _ _ dX5_doubt_20 hP hS

abbrev rm_X5_kept : Room := { frames := 1, cells := 0, slots := 0, locals := 22 }
def f_X5_kept (M : ModelV) (y1 : Int32) : Option (Int32) := (f_X5_in y1 0 (M.2.2.2.2.2.2.2.2.2.1 - 1)).bind (fun x1 => if (b2i x1) = 0 then (some (-6)) else (gd (ix y1 6) (some (M.2.2.2.2.2.2.2.2.1 (y1 : Int32).toNatClampNeg))))
set_option maxHeartbeats 4000000 in
set_option maxRecDepth 100000 in
theorem c_X5_kept (l : Launch) (D : va_G) (k : Nat → ClassId) (a : Nat → Nat) (M : ModelV) (y1 : Int32) (r : Int32) (h : f_X5_kept M y1 = some r) : Met l yX5_kept wsX5_kept rm_X5_kept (va_Pc [.ref (a 0), .int y1] (RB D k (modelW k a M))) (QR (some (.int r))) 0 0 (fun _ => False) := by
  refine met_Ri (by decide) rfl (Nat.le_of_ble_eq_true rfl) ?_
  intro p e s m below meth c Q args ls hx hb hml hown hts hP hK hN hl hQ
  have hl : lv_has ls 2 [(0, .ref (a 0)), (1, .int y1)] := hl
  have hown : s.vm.findClass RX5 = some m.cls := hown
  unfold f_X5_kept at h
  have hiRX5 : ∀ w ∈ u_ws RX5 TX5 19, w ∈ wsX5_kept := by decide +kernel
  have hf61 := hts (.fieldLink RX5 61 "RainCellsModel" "kept" "I") (by decide +kernel)
  have hf32 := hts (.fieldLink RX5 32 "RainCellsModel" "sets" "[I") (by decide +kernel)
  refine lv_iload_n hx hb dX5_kept_0 rfl (lv_at hl 1 rfl) ?_
  refine lv_iconst (v := 0) hx hb dX5_kept_1 (by decide) ?_
  refine lv_aload_n hx hb dX5_kept_2 rfl (lv_at hl 0 rfl) ?_
  refine va_get (D := D) (ci := 5) (v := .int M.2.2.2.2.2.2.2.2.2.1) (C := RX5) (T := TX5) (N := 19) hx hb hts hiRX5 hown hK hP 0 rfl rfl 9 (by decide) hf61 (fun _ h9 => h9) rfl dX5_kept_3 ?_
  refine lv_iconst (v := 1) hx hb dX5_kept_6 (by decide) ?_
  refine lv_isub hx hb dX5_kept_7 ?_
  obtain ⟨x1, h2, h⟩ := bd_s h
  refine cR_S (As := [.int y1, .int 0, .int (M.2.2.2.2.2.2.2.2.2.1 - 1)]) (rest := []) (n := 3) (v := .int (b2i x1)) hx hb hml hown hts hK hN hl.1 (c_X5_in l D k y1 0 (M.2.2.2.2.2.2.2.2.2.1 - 1) x1 h2) gX5_kept_X5_in rfl (by decide +kernel) ⟨⟨rfl, rfl⟩, by decide, by decide⟩ va_P_nil rfl rfl (Nat.le_of_ble_eq_true rfl) dX5_kept_8 ⟨Nat.zero_le _, Nat.zero_le _⟩ ?_
  refine lv_if_eq (tgt := 23) hx hb dX5_kept_11 (by decide) (fun c3 => ?_) (fun c3 => ?_)
  · have h := if_t h c3
    refine lv_bipush (v := (-6)) hx hb dX5_kept_23 (by decide) ?_
    obtain rfl := Option.some.inj h
    exact hQ _ _ dX5_kept_25
  · have h := if_f h c3
    refine lv_aload_n hx hb dX5_kept_14 rfl (lv_at hl 0 rfl) ?_
    refine va_get (D := D) (ci := 5) (v := .ref (a 8)) (C := RX5) (T := TX5) (N := 19) hx hb hts hiRX5 hown hK hP 0 rfl rfl 8 (by decide) hf32 (fun _ h9 => h9) rfl dX5_kept_15 ?_
    refine lv_iload_n hx hb dX5_kept_18 rfl (lv_at hl 1 rfl) ?_
    obtain ⟨c4, h⟩ := gd_s h
    refine va_iald (D := D) hx hb hK hP 8 0 rfl rfl (ix_in c4) dX5_kept_19 ?_
    refine lv_goto (tgt := 25) hx hb dX5_kept_20 (by decide) ?_
    obtain rfl := Option.some.inj h
    exact hQ _ _ dX5_kept_25

abbrev rm_X5_image : Room := { frames := 1, cells := 0, slots := 0, locals := 22 }
def f_X5_image_L14 (y1 : Int32) (z : Int32 × ModelV) : Option ((Int32 × ModelV) ⊕ (ModelV)) := if 16 ≤ z.1 then (some (.inr z.2)) else (gd (ix z.1 16) (gd (ix ((32 * y1) + z.1) 64) (gd (ix z.1 16) (gd (ix (((32 * y1) + 16) + z.1) 64) (some (.inl ((z.1 + 1), ((z.2).1, (z.2).2.1, (z.2).2.2.1, (z.2).2.2.2.1, (z.2).2.2.2.2.1, (z.2).2.2.2.2.2.1, (z.2).2.2.2.2.2.2.1, (z.2).2.2.2.2.2.2.2.1, (z.2).2.2.2.2.2.2.2.2.1, (z.2).2.2.2.2.2.2.2.2.2.1, (z.2).2.2.2.2.2.2.2.2.2.2.1, (z.2).2.2.2.2.2.2.2.2.2.2.2.1, (z.2).2.2.2.2.2.2.2.2.2.2.2.2.1, (z.2).2.2.2.2.2.2.2.2.2.2.2.2.2.1, (upd (upd ((z.2).2.2.2.2.2.2.2.2.2.2.2.2.2.2.1) (((32 * y1) + z.1) : Int32).toNatClampNeg (((z.2).1) (z.1 : Int32).toNatClampNeg)) ((((32 * y1) + 16) + z.1) : Int32).toNatClampNeg (((z.2).2.1) (z.1 : Int32).toNatClampNeg)), (z.2).2.2.2.2.2.2.2.2.2.2.2.2.2.2.2))))))))
def f_X5_image_L65 (y1 : Int32) (z : Int32 × ModelV) : Option ((Int32 × ModelV) ⊕ (ModelV)) := if 8 ≤ z.1 then (some (.inr z.2)) else (gd (ix z.1 8) (gd (ix ((24 * y1) + (3 * z.1)) 48) (gd (ix z.1 8) (gd (ix (((24 * y1) + (3 * z.1)) + 1) 48) (gd (ix z.1 8) (gd (ix (((24 * y1) + (3 * z.1)) + 2) 48) (some (.inl ((z.1 + 1), ((z.2).1, (z.2).2.1, (z.2).2.2.1, (z.2).2.2.2.1, (z.2).2.2.2.2.1, (z.2).2.2.2.2.2.1, (z.2).2.2.2.2.2.2.1, (z.2).2.2.2.2.2.2.2.1, (z.2).2.2.2.2.2.2.2.2.1, (z.2).2.2.2.2.2.2.2.2.2.1, (z.2).2.2.2.2.2.2.2.2.2.2.1, (z.2).2.2.2.2.2.2.2.2.2.2.2.1, (z.2).2.2.2.2.2.2.2.2.2.2.2.2.1, (z.2).2.2.2.2.2.2.2.2.2.2.2.2.2.1, (z.2).2.2.2.2.2.2.2.2.2.2.2.2.2.2.1, (z.2).2.2.2.2.2.2.2.2.2.2.2.2.2.2.2.1, (upd (upd (upd ((z.2).2.2.2.2.2.2.2.2.2.2.2.2.2.2.2.2.1) (((24 * y1) + (3 * z.1)) : Int32).toNatClampNeg (((z.2).2.2.2.1) (z.1 : Int32).toNatClampNeg)) ((((24 * y1) + (3 * z.1)) + 1) : Int32).toNatClampNeg (((z.2).2.2.2.2.1) (z.1 : Int32).toNatClampNeg)) ((((24 * y1) + (3 * z.1)) + 2) : Int32).toNatClampNeg (((z.2).2.2.2.2.2.1) (z.1 : Int32).toNatClampNeg)), (z.2).2.2.2.2.2.2.2.2.2.2.2.2.2.2.2.2.2))))))))))
def f_X5_image_L140 (y1 : Int32) (z : Int32 × ModelV) : Option ((Int32 × ModelV) ⊕ (ModelV)) := if 512 ≤ z.1 then (some (.inr z.2)) else (gd (ix z.1 512) (gd (ix ((512 * y1) + z.1) 1024) (gd (ix z.1 512) (gd (ix ((512 * y1) + z.1) 1024) (some (.inl ((z.1 + 1), ((z.2).1, (z.2).2.1, (z.2).2.2.1, (z.2).2.2.2.1, (z.2).2.2.2.2.1, (z.2).2.2.2.2.2.1, (z.2).2.2.2.2.2.2.1, (z.2).2.2.2.2.2.2.2.1, (z.2).2.2.2.2.2.2.2.2.1, (z.2).2.2.2.2.2.2.2.2.2.1, (z.2).2.2.2.2.2.2.2.2.2.2.1, (z.2).2.2.2.2.2.2.2.2.2.2.2.1, (z.2).2.2.2.2.2.2.2.2.2.2.2.2.1, (z.2).2.2.2.2.2.2.2.2.2.2.2.2.2.1, (z.2).2.2.2.2.2.2.2.2.2.2.2.2.2.2.1, (z.2).2.2.2.2.2.2.2.2.2.2.2.2.2.2.2.1, (z.2).2.2.2.2.2.2.2.2.2.2.2.2.2.2.2.2.1, (upd ((z.2).2.2.2.2.2.2.2.2.2.2.2.2.2.2.2.2.2.1) (((512 * y1) + z.1) : Int32).toNatClampNeg (vp_nar .boolean (((z.2).2.2.2.2.2.2.1) (z.1 : Int32).toNatClampNeg))), (upd ((z.2).2.2.2.2.2.2.2.2.2.2.2.2.2.2.2.2.2.2) (((512 * y1) + z.1) : Int32).toNatClampNeg (((z.2).2.2.2.2.2.2.2.1) (z.1 : Int32).toNatClampNeg))))))))))
def f_X5_image (M : ModelV) (y1 : Int32) : Option (Int32 × ModelV) := (f_X5_in y1 0 1).bind (fun x1 => if (b2i x1) = 0 then (some ((-2), M)) else ((lp (f_X5_image_L14 y1) fu (0, M)).bind (fun x4 => (lp (f_X5_image_L65 y1) fu (0, x4)).bind (fun x11 => (lp (f_X5_image_L140 y1) fu (0, x11)).bind (fun x18 => gd (ix y1 2) (gd (ix y1 2) (some (1, (x18.1, x18.2.1, x18.2.2.1, x18.2.2.2.1, x18.2.2.2.2.1, x18.2.2.2.2.2.1, x18.2.2.2.2.2.2.1, x18.2.2.2.2.2.2.2.1, x18.2.2.2.2.2.2.2.2.1, x18.2.2.2.2.2.2.2.2.2.1, x18.2.2.2.2.2.2.2.2.2.2.1, x18.2.2.2.2.2.2.2.2.2.2.2.1, x18.2.2.2.2.2.2.2.2.2.2.2.2.1, (upd x18.2.2.2.2.2.2.2.2.2.2.2.2.2.1 (y1 : Int32).toNatClampNeg (vp_nar .boolean 1)), x18.2.2.2.2.2.2.2.2.2.2.2.2.2.2.1, (upd x18.2.2.2.2.2.2.2.2.2.2.2.2.2.2.2.1 (y1 : Int32).toNatClampNeg x18.2.2.1), x18.2.2.2.2.2.2.2.2.2.2.2.2.2.2.2.2)))))))))
set_option maxHeartbeats 4000000 in
set_option maxRecDepth 100000 in
theorem c_X5_image (l : Launch) (D : va_G) (k : Nat → ClassId) (a : Nat → Nat) (M : ModelV) (y1 : Int32) (r : Int32 × ModelV) (h : f_X5_image M y1 = some r) : Met l yX5_image wsX5_image rm_X5_image (va_Pc [.ref (a 0), .int y1] (MB D k (modelW k a M))) (QM D (modelW k a M) (modelW k a r.2) (some (.int r.1))) 0 0 (AD (modelW k a M)) := by
  refine met_Mi (by decide) rfl (Nat.le_of_ble_eq_true rfl) ?_
  intro p e s m below meth c Q args ls hx hb hml hown hts hP hK hN hD hl hQ
  have hl : lv_has ls 3 [(0, .ref (a 0)), (1, .int y1)] := hl
  have hown : s.vm.findClass RX5 = some m.cls := hown
  unfold f_X5_image at h
  have hiRX5 : ∀ w ∈ u_ws RX5 TX5 19, w ∈ wsX5_image := by decide +kernel
  have hf38 := hts (.fieldLink RX5 38 "RainCellsModel" "imageRows" "[I") (by decide +kernel)
  have hf7 := hts (.fieldLink RX5 7 "RainCellsModel" "from" "[I") (by decide +kernel)
  have hf13 := hts (.fieldLink RX5 13 "RainCellsModel" "to" "[I") (by decide +kernel)
  have hf44 := hts (.fieldLink RX5 44 "RainCellsModel" "imageGauges" "[I") (by decide +kernel)
  have hf16 := hts (.fieldLink RX5 16 "RainCellsModel" "px" "[I") (by decide +kernel)
  have hf19 := hts (.fieldLink RX5 19 "RainCellsModel" "py" "[I") (by decide +kernel)
  have hf22 := hts (.fieldLink RX5 22 "RainCellsModel" "reach" "[I") (by decide +kernel)
  have hf47 := hts (.fieldLink RX5 47 "RainCellsModel" "imageOut" "[Z") (by decide +kernel)
  have hf25 := hts (.fieldLink RX5 25 "RainCellsModel" "isOut" "[Z") (by decide +kernel)
  have hf50 := hts (.fieldLink RX5 50 "RainCellsModel" "imageReadings" "[I") (by decide +kernel)
  have hf29 := hts (.fieldLink RX5 29 "RainCellsModel" "readings" "[I") (by decide +kernel)
  have hf41 := hts (.fieldLink RX5 41 "RainCellsModel" "imageMany" "[I") (by decide +kernel)
  have hf53 := hts (.fieldLink RX5 53 "RainCellsModel" "many" "I") (by decide +kernel)
  have hf35 := hts (.fieldLink RX5 35 "RainCellsModel" "isKept" "[Z") (by decide +kernel)
  generalize AD (modelW k a M) = A0 at hD hQ
  have hS : va_S A0 s.heap s.heap [] := va_S.rf
  refine lv_iload_n hx hb dX5_image_0 rfl (lv_at hl 1 rfl) ?_
  refine lv_iconst (v := 0) hx hb dX5_image_1 (by decide) ?_
  refine lv_iconst (v := 1) hx hb dX5_image_2 (by decide) ?_
  obtain ⟨x1, h2, h⟩ := bd_s h
  refine cR_S (As := [.int y1, .int 0, .int 1]) (rest := []) (n := 3) (v := .int (b2i x1)) hx hb hml hown hts hK hN hl.1 (c_X5_in l D k y1 0 1 x1 h2) gX5_image_X5_in rfl (by decide +kernel) ⟨⟨rfl, rfl⟩, by decide, by decide⟩ va_P_nil rfl rfl (Nat.le_of_ble_eq_true rfl) dX5_image_3 ⟨Nat.zero_le _, Nat.zero_le _⟩ ?_
  refine lv_if_ne (tgt := 12) hx hb dX5_image_6 (by decide) (fun c3 => ?_) (fun c3 => ?_)
  · have h := if_f h c3
    refine lv_iconst (v := 0) hx hb dX5_image_12 (by decide) ?_
    refine lv_istore_n (lv' := [(2, .int 0), (0, .ref (a 0)), (1, .int y1)]) hx hb dX5_image_13 rfl hl (by decide) rfl (fun ls hl => ?_)
    obtain ⟨x4, h5, h⟩ := bd_s h
    have K46 : ∀ (ls : Array Slot) (H : Heap) (locs : List Loc), lv_has ls 3 [(0, .ref (a 0)), (1, .int y1)] → va_P D vwCl (modelW k a x4) H → va_D A0 (modelW k a x4) → va_S A0 s.heap H locs → W p l e rm_X5_image s m args below meth c H locs 0 0 Q (F0 m 63 ls []) := by
      intro ls H locs hl hP hD hS
      refine lv_iconst (v := 0) hx hb dX5_image_63 (by decide) ?_
      refine lv_istore_n (lv' := [(2, .int 0), (0, .ref (a 0)), (1, .int y1)]) hx hb dX5_image_64 rfl hl (by decide) rfl (fun ls hl => ?_)
      obtain ⟨x11, h12, h⟩ := bd_s h
      have K40 : ∀ (ls : Array Slot) (H : Heap) (locs : List Loc), lv_has ls 3 [(0, .ref (a 0)), (1, .int y1)] → va_P D vwCl (modelW k a x11) H → va_D A0 (modelW k a x11) → va_S A0 s.heap H locs → W p l e rm_X5_image s m args below meth c H locs 0 0 Q (F0 m 138 ls []) := by
        intro ls H locs hl hP hD hS
        refine lv_iconst (v := 0) hx hb dX5_image_138 (by decide) ?_
        refine lv_istore_n (lv' := [(2, .int 0), (0, .ref (a 0)), (1, .int y1)]) hx hb dX5_image_139 rfl hl (by decide) rfl (fun ls hl => ?_)
        obtain ⟨x18, h19, h⟩ := bd_s h
        have K32 : ∀ (ls : Array Slot) (H : Heap) (locs : List Loc), lv_has ls 3 [(0, .ref (a 0)), (1, .int y1)] → va_P D vwCl (modelW k a x18) H → va_D A0 (modelW k a x18) → va_S A0 s.heap H locs → W p l e rm_X5_image s m args below meth c H locs 0 0 Q (F0 m 189 ls []) := by
          intro ls H locs hl hP hD hS
          refine lv_aload_n hx hb dX5_image_189 rfl (lv_at hl 0 rfl) ?_
          refine va_get (D := D) (ci := 5) (v := .ref (a 11)) (C := RX5) (T := TX5) (N := 19) hx hb hts hiRX5 hown hK hP 0 rfl rfl 15 (by decide) hf41 (fun _ h9 => h9) rfl dX5_image_190 ?_
          refine lv_iload_n hx hb dX5_image_193 rfl (lv_at hl 1 rfl) ?_
          refine lv_aload_n hx hb dX5_image_194 rfl (lv_at hl 0 rfl) ?_
          refine va_get (D := D) (ci := 5) (v := .int x18.2.2.1) (C := RX5) (T := TX5) (N := 19) hx hb hts hiRX5 hown hK hP 0 rfl rfl 2 (by decide) hf53 (fun _ h9 => h9) rfl dX5_image_195 ?_
          obtain ⟨c25, h⟩ := gd_s h
          refine va_iast (D := D) hx hb hK hP hD hS 11 0 rfl rfl (ix_in c25) dX5_image_198 (fun H locs hP hD hS => ?_)
          have hP : va_P D vwCl (modelW k a (x18.1, x18.2.1, x18.2.2.1, x18.2.2.2.1, x18.2.2.2.2.1, x18.2.2.2.2.2.1, x18.2.2.2.2.2.2.1, x18.2.2.2.2.2.2.2.1, x18.2.2.2.2.2.2.2.2.1, x18.2.2.2.2.2.2.2.2.2.1, x18.2.2.2.2.2.2.2.2.2.2.1, x18.2.2.2.2.2.2.2.2.2.2.2.1, x18.2.2.2.2.2.2.2.2.2.2.2.2.1, x18.2.2.2.2.2.2.2.2.2.2.2.2.2.1, x18.2.2.2.2.2.2.2.2.2.2.2.2.2.2.1, (upd x18.2.2.2.2.2.2.2.2.2.2.2.2.2.2.2.1 (y1 : Int32).toNatClampNeg x18.2.2.1), x18.2.2.2.2.2.2.2.2.2.2.2.2.2.2.2.2)) H := hP
          have hD : va_D A0 (modelW k a (x18.1, x18.2.1, x18.2.2.1, x18.2.2.2.1, x18.2.2.2.2.1, x18.2.2.2.2.2.1, x18.2.2.2.2.2.2.1, x18.2.2.2.2.2.2.2.1, x18.2.2.2.2.2.2.2.2.1, x18.2.2.2.2.2.2.2.2.2.1, x18.2.2.2.2.2.2.2.2.2.2.1, x18.2.2.2.2.2.2.2.2.2.2.2.1, x18.2.2.2.2.2.2.2.2.2.2.2.2.1, x18.2.2.2.2.2.2.2.2.2.2.2.2.2.1, x18.2.2.2.2.2.2.2.2.2.2.2.2.2.2.1, (upd x18.2.2.2.2.2.2.2.2.2.2.2.2.2.2.2.1 (y1 : Int32).toNatClampNeg x18.2.2.1), x18.2.2.2.2.2.2.2.2.2.2.2.2.2.2.2.2)) := hD
          refine lv_aload_n hx hb dX5_image_199 rfl (lv_at hl 0 rfl) ?_
          refine va_get (D := D) (ci := 5) (v := .ref (a 9)) (C := RX5) (T := TX5) (N := 19) hx hb hts hiRX5 hown hK hP 0 rfl rfl 13 (by decide) hf35 (fun _ h9 => h9) rfl dX5_image_200 ?_
          refine lv_iload_n hx hb dX5_image_203 rfl (lv_at hl 1 rfl) ?_
          refine lv_iconst (v := 1) hx hb dX5_image_204 (by decide) ?_
          obtain ⟨c26, h⟩ := gd_s h
          refine va_zast (D := D) hx hb hK hP hD hS 9 2 rfl rfl (ix_in c26) dX5_image_205 (fun H locs hP hD hS => ?_)
          have hP : va_P D vwCl (modelW k a (x18.1, x18.2.1, x18.2.2.1, x18.2.2.2.1, x18.2.2.2.2.1, x18.2.2.2.2.2.1, x18.2.2.2.2.2.2.1, x18.2.2.2.2.2.2.2.1, x18.2.2.2.2.2.2.2.2.1, x18.2.2.2.2.2.2.2.2.2.1, x18.2.2.2.2.2.2.2.2.2.2.1, x18.2.2.2.2.2.2.2.2.2.2.2.1, x18.2.2.2.2.2.2.2.2.2.2.2.2.1, (upd x18.2.2.2.2.2.2.2.2.2.2.2.2.2.1 (y1 : Int32).toNatClampNeg (vp_nar .boolean 1)), x18.2.2.2.2.2.2.2.2.2.2.2.2.2.2.1, (upd x18.2.2.2.2.2.2.2.2.2.2.2.2.2.2.2.1 (y1 : Int32).toNatClampNeg x18.2.2.1), x18.2.2.2.2.2.2.2.2.2.2.2.2.2.2.2.2)) H := hP
          have hD : va_D A0 (modelW k a (x18.1, x18.2.1, x18.2.2.1, x18.2.2.2.1, x18.2.2.2.2.1, x18.2.2.2.2.2.1, x18.2.2.2.2.2.2.1, x18.2.2.2.2.2.2.2.1, x18.2.2.2.2.2.2.2.2.1, x18.2.2.2.2.2.2.2.2.2.1, x18.2.2.2.2.2.2.2.2.2.2.1, x18.2.2.2.2.2.2.2.2.2.2.2.1, x18.2.2.2.2.2.2.2.2.2.2.2.2.1, (upd x18.2.2.2.2.2.2.2.2.2.2.2.2.2.1 (y1 : Int32).toNatClampNeg (vp_nar .boolean 1)), x18.2.2.2.2.2.2.2.2.2.2.2.2.2.2.1, (upd x18.2.2.2.2.2.2.2.2.2.2.2.2.2.2.2.1 (y1 : Int32).toNatClampNeg x18.2.2.1), x18.2.2.2.2.2.2.2.2.2.2.2.2.2.2.2.2)) := hD
          refine lv_iconst (v := 1) hx hb dX5_image_206 (by decide) ?_
          obtain rfl := Option.some.inj h
          exact hQ _ _ _ _ dX5_image_207 hP hS
        refine lp_W (P := fun z20 => ∀ (ls : Array Slot) (H : Heap) (locs : List Loc), lv_has ls 3 [(0, .ref (a 0)), (1, .int y1), (2, .int z20.1)] → va_P D vwCl (modelW k a z20.2) H → va_D A0 (modelW k a z20.2) → va_S A0 s.heap H locs → W p l e rm_X5_image s m args below meth c H locs 0 0 Q (F0 m 140 ls [])) (E := fun x18 => ∀ (ls : Array Slot) (H : Heap) (locs : List Loc), lv_has ls 3 [(0, .ref (a 0)), (1, .int y1)] → va_P D vwCl (modelW k a x18) H → va_D A0 (modelW k a x18) → va_S A0 s.heap H locs → W p l e rm_X5_image s m args below meth c H locs 0 0 Q (F0 m 189 ls [])) (fun z20 xx22 hB21 kI23 kE24 => ?_) _ _ _ h19 K32 ls H locs (lv_sub hl [1, 2, 0] rfl) hP hD hS
        intro ls H locs hl hP hD hS
        unfold f_X5_image_L140 at hB21
        refine lv_iload_n hx hb dX5_image_140 rfl (lv_at hl 2 rfl) ?_
        refine lv_sipush (v := 512) hx hb dX5_image_141 (by decide) ?_
        refine lv_icmp_ge (tgt := 189) hx hb dX5_image_144 (by decide) (fun c27 => ?_) (fun c27 => ?_)
        · have hB21 := if_t hB21 c27
          exact kE24 _ (Option.some.inj hB21).symm ls H locs (lv_sub hl [0, 1] rfl) hP hD hS
        · have hB21 := if_f hB21 c27
          refine lv_aload_n hx hb dX5_image_147 rfl (lv_at hl 0 rfl) ?_
          refine va_get (D := D) (ci := 5) (v := .ref (a 13)) (C := RX5) (T := TX5) (N := 19) hx hb hts hiRX5 hown hK hP 0 rfl rfl 17 (by decide) hf47 (fun _ h9 => h9) rfl dX5_image_148 ?_
          refine lv_sipush (v := 512) hx hb dX5_image_151 (by decide) ?_
          refine lv_iload_n hx hb dX5_image_154 rfl (lv_at hl 1 rfl) ?_
          refine lv_imul hx hb dX5_image_155 ?_
          refine lv_iload_n hx hb dX5_image_156 rfl (lv_at hl 2 rfl) ?_
          refine lv_iadd hx hb dX5_image_157 ?_
          refine lv_aload_n hx hb dX5_image_158 rfl (lv_at hl 0 rfl) ?_
          refine va_get (D := D) (ci := 5) (v := .ref (a 6)) (C := RX5) (T := TX5) (N := 19) hx hb hts hiRX5 hown hK hP 0 rfl rfl 6 (by decide) hf25 (fun _ h9 => h9) rfl dX5_image_159 ?_
          refine lv_iload_n hx hb dX5_image_162 rfl (lv_at hl 2 rfl) ?_
          obtain ⟨c28, hB21⟩ := gd_s hB21
          refine va_zald (D := D) hx hb hK hP 6 2 rfl rfl (ix_in c28) dX5_image_163 ?_
          obtain ⟨c29, hB21⟩ := gd_s hB21
          refine va_zast (D := D) hx hb hK hP hD hS 13 2 rfl rfl (ix_in c29) dX5_image_164 (fun H locs hP hD hS => ?_)
          have hP : va_P D vwCl (modelW k a ((z20.2).1, (z20.2).2.1, (z20.2).2.2.1, (z20.2).2.2.2.1, (z20.2).2.2.2.2.1, (z20.2).2.2.2.2.2.1, (z20.2).2.2.2.2.2.2.1, (z20.2).2.2.2.2.2.2.2.1, (z20.2).2.2.2.2.2.2.2.2.1, (z20.2).2.2.2.2.2.2.2.2.2.1, (z20.2).2.2.2.2.2.2.2.2.2.2.1, (z20.2).2.2.2.2.2.2.2.2.2.2.2.1, (z20.2).2.2.2.2.2.2.2.2.2.2.2.2.1, (z20.2).2.2.2.2.2.2.2.2.2.2.2.2.2.1, (z20.2).2.2.2.2.2.2.2.2.2.2.2.2.2.2.1, (z20.2).2.2.2.2.2.2.2.2.2.2.2.2.2.2.2.1, (z20.2).2.2.2.2.2.2.2.2.2.2.2.2.2.2.2.2.1, (upd ((z20.2).2.2.2.2.2.2.2.2.2.2.2.2.2.2.2.2.2.1) (((512 * y1) + z20.1) : Int32).toNatClampNeg (vp_nar .boolean (((z20.2).2.2.2.2.2.2.1) (z20.1 : Int32).toNatClampNeg))), (z20.2).2.2.2.2.2.2.2.2.2.2.2.2.2.2.2.2.2.2)) H := hP
          have hD : va_D A0 (modelW k a ((z20.2).1, (z20.2).2.1, (z20.2).2.2.1, (z20.2).2.2.2.1, (z20.2).2.2.2.2.1, (z20.2).2.2.2.2.2.1, (z20.2).2.2.2.2.2.2.1, (z20.2).2.2.2.2.2.2.2.1, (z20.2).2.2.2.2.2.2.2.2.1, (z20.2).2.2.2.2.2.2.2.2.2.1, (z20.2).2.2.2.2.2.2.2.2.2.2.1, (z20.2).2.2.2.2.2.2.2.2.2.2.2.1, (z20.2).2.2.2.2.2.2.2.2.2.2.2.2.1, (z20.2).2.2.2.2.2.2.2.2.2.2.2.2.2.1, (z20.2).2.2.2.2.2.2.2.2.2.2.2.2.2.2.1, (z20.2).2.2.2.2.2.2.2.2.2.2.2.2.2.2.2.1, (z20.2).2.2.2.2.2.2.2.2.2.2.2.2.2.2.2.2.1, (upd ((z20.2).2.2.2.2.2.2.2.2.2.2.2.2.2.2.2.2.2.1) (((512 * y1) + z20.1) : Int32).toNatClampNeg (vp_nar .boolean (((z20.2).2.2.2.2.2.2.1) (z20.1 : Int32).toNatClampNeg))), (z20.2).2.2.2.2.2.2.2.2.2.2.2.2.2.2.2.2.2.2)) := hD
          refine lv_aload_n hx hb dX5_image_165 rfl (lv_at hl 0 rfl) ?_
          refine va_get (D := D) (ci := 5) (v := .ref (a 14)) (C := RX5) (T := TX5) (N := 19) hx hb hts hiRX5 hown hK hP 0 rfl rfl 18 (by decide) hf50 (fun _ h9 => h9) rfl dX5_image_166 ?_
          refine lv_sipush (v := 512) hx hb dX5_image_169 (by decide) ?_
          refine lv_iload_n hx hb dX5_image_172 rfl (lv_at hl 1 rfl) ?_
          refine lv_imul hx hb dX5_image_173 ?_
          refine lv_iload_n hx hb dX5_image_174 rfl (lv_at hl 2 rfl) ?_
          refine lv_iadd hx hb dX5_image_175 ?_
          refine lv_aload_n hx hb dX5_image_176 rfl (lv_at hl 0 rfl) ?_
          refine va_get (D := D) (ci := 5) (v := .ref (a 7)) (C := RX5) (T := TX5) (N := 19) hx hb hts hiRX5 hown hK hP 0 rfl rfl 7 (by decide) hf29 (fun _ h9 => h9) rfl dX5_image_177 ?_
          refine lv_iload_n hx hb dX5_image_180 rfl (lv_at hl 2 rfl) ?_
          obtain ⟨c30, hB21⟩ := gd_s hB21
          refine va_iald (D := D) hx hb hK hP 7 0 rfl rfl (ix_in c30) dX5_image_181 ?_
          obtain ⟨c31, hB21⟩ := gd_s hB21
          refine va_iast (D := D) hx hb hK hP hD hS 14 0 rfl rfl (ix_in c31) dX5_image_182 (fun H locs hP hD hS => ?_)
          have hP : va_P D vwCl (modelW k a ((z20.2).1, (z20.2).2.1, (z20.2).2.2.1, (z20.2).2.2.2.1, (z20.2).2.2.2.2.1, (z20.2).2.2.2.2.2.1, (z20.2).2.2.2.2.2.2.1, (z20.2).2.2.2.2.2.2.2.1, (z20.2).2.2.2.2.2.2.2.2.1, (z20.2).2.2.2.2.2.2.2.2.2.1, (z20.2).2.2.2.2.2.2.2.2.2.2.1, (z20.2).2.2.2.2.2.2.2.2.2.2.2.1, (z20.2).2.2.2.2.2.2.2.2.2.2.2.2.1, (z20.2).2.2.2.2.2.2.2.2.2.2.2.2.2.1, (z20.2).2.2.2.2.2.2.2.2.2.2.2.2.2.2.1, (z20.2).2.2.2.2.2.2.2.2.2.2.2.2.2.2.2.1, (z20.2).2.2.2.2.2.2.2.2.2.2.2.2.2.2.2.2.1, (upd ((z20.2).2.2.2.2.2.2.2.2.2.2.2.2.2.2.2.2.2.1) (((512 * y1) + z20.1) : Int32).toNatClampNeg (vp_nar .boolean (((z20.2).2.2.2.2.2.2.1) (z20.1 : Int32).toNatClampNeg))), (upd ((z20.2).2.2.2.2.2.2.2.2.2.2.2.2.2.2.2.2.2.2) (((512 * y1) + z20.1) : Int32).toNatClampNeg (((z20.2).2.2.2.2.2.2.2.1) (z20.1 : Int32).toNatClampNeg)))) H := hP
          have hD : va_D A0 (modelW k a ((z20.2).1, (z20.2).2.1, (z20.2).2.2.1, (z20.2).2.2.2.1, (z20.2).2.2.2.2.1, (z20.2).2.2.2.2.2.1, (z20.2).2.2.2.2.2.2.1, (z20.2).2.2.2.2.2.2.2.1, (z20.2).2.2.2.2.2.2.2.2.1, (z20.2).2.2.2.2.2.2.2.2.2.1, (z20.2).2.2.2.2.2.2.2.2.2.2.1, (z20.2).2.2.2.2.2.2.2.2.2.2.2.1, (z20.2).2.2.2.2.2.2.2.2.2.2.2.2.1, (z20.2).2.2.2.2.2.2.2.2.2.2.2.2.2.1, (z20.2).2.2.2.2.2.2.2.2.2.2.2.2.2.2.1, (z20.2).2.2.2.2.2.2.2.2.2.2.2.2.2.2.2.1, (z20.2).2.2.2.2.2.2.2.2.2.2.2.2.2.2.2.2.1, (upd ((z20.2).2.2.2.2.2.2.2.2.2.2.2.2.2.2.2.2.2.1) (((512 * y1) + z20.1) : Int32).toNatClampNeg (vp_nar .boolean (((z20.2).2.2.2.2.2.2.1) (z20.1 : Int32).toNatClampNeg))), (upd ((z20.2).2.2.2.2.2.2.2.2.2.2.2.2.2.2.2.2.2.2) (((512 * y1) + z20.1) : Int32).toNatClampNeg (((z20.2).2.2.2.2.2.2.2.1) (z20.1 : Int32).toNatClampNeg)))) := hD
          refine lv_iinc (v := (z20.1 + 1)) (lv' := [(2, .int (z20.1 + 1)), (0, .ref (a 0)), (1, .int y1)]) hx hb dX5_image_183 hl (k := 2) rfl rfl (by decide) rfl (fun ls hl => ?_)
          refine lv_goto (tgt := 140) hx hb dX5_image_186 (by decide) ?_
          exact kI23 _ (Option.some.inj hB21).symm ls H locs (lv_sub hl [1, 2, 0] rfl) hP hD hS
      refine lp_W (P := fun z13 => ∀ (ls : Array Slot) (H : Heap) (locs : List Loc), lv_has ls 3 [(0, .ref (a 0)), (1, .int y1), (2, .int z13.1)] → va_P D vwCl (modelW k a z13.2) H → va_D A0 (modelW k a z13.2) → va_S A0 s.heap H locs → W p l e rm_X5_image s m args below meth c H locs 0 0 Q (F0 m 65 ls [])) (E := fun x11 => ∀ (ls : Array Slot) (H : Heap) (locs : List Loc), lv_has ls 3 [(0, .ref (a 0)), (1, .int y1)] → va_P D vwCl (modelW k a x11) H → va_D A0 (modelW k a x11) → va_S A0 s.heap H locs → W p l e rm_X5_image s m args below meth c H locs 0 0 Q (F0 m 138 ls [])) (fun z13 xx15 hB14 kI16 kE17 => ?_) _ _ _ h12 K40 ls H locs (lv_sub hl [1, 2, 0] rfl) hP hD hS
      intro ls H locs hl hP hD hS
      unfold f_X5_image_L65 at hB14
      refine lv_iload_n hx hb dX5_image_65 rfl (lv_at hl 2 rfl) ?_
      refine lv_bipush (v := 8) hx hb dX5_image_66 (by decide) ?_
      refine lv_icmp_ge (tgt := 138) hx hb dX5_image_68 (by decide) (fun c33 => ?_) (fun c33 => ?_)
      · have hB14 := if_t hB14 c33
        exact kE17 _ (Option.some.inj hB14).symm ls H locs (lv_sub hl [0, 1] rfl) hP hD hS
      · have hB14 := if_f hB14 c33
        refine lv_aload_n hx hb dX5_image_71 rfl (lv_at hl 0 rfl) ?_
        refine va_get (D := D) (ci := 5) (v := .ref (a 12)) (C := RX5) (T := TX5) (N := 19) hx hb hts hiRX5 hown hK hP 0 rfl rfl 16 (by decide) hf44 (fun _ h9 => h9) rfl dX5_image_72 ?_
        refine lv_bipush (v := 24) hx hb dX5_image_75 (by decide) ?_
        refine lv_iload_n hx hb dX5_image_77 rfl (lv_at hl 1 rfl) ?_
        refine lv_imul hx hb dX5_image_78 ?_
        refine lv_iconst (v := 3) hx hb dX5_image_79 (by decide) ?_
        refine lv_iload_n hx hb dX5_image_80 rfl (lv_at hl 2 rfl) ?_
        refine lv_imul hx hb dX5_image_81 ?_
        refine lv_iadd hx hb dX5_image_82 ?_
        refine lv_aload_n hx hb dX5_image_83 rfl (lv_at hl 0 rfl) ?_
        refine va_get (D := D) (ci := 5) (v := .ref (a 3)) (C := RX5) (T := TX5) (N := 19) hx hb hts hiRX5 hown hK hP 0 rfl rfl 3 (by decide) hf16 (fun _ h9 => h9) rfl dX5_image_84 ?_
        refine lv_iload_n hx hb dX5_image_87 rfl (lv_at hl 2 rfl) ?_
        obtain ⟨c34, hB14⟩ := gd_s hB14
        refine va_iald (D := D) hx hb hK hP 3 0 rfl rfl (ix_in c34) dX5_image_88 ?_
        obtain ⟨c35, hB14⟩ := gd_s hB14
        refine va_iast (D := D) hx hb hK hP hD hS 12 0 rfl rfl (ix_in c35) dX5_image_89 (fun H locs hP hD hS => ?_)
        have hP : va_P D vwCl (modelW k a ((z13.2).1, (z13.2).2.1, (z13.2).2.2.1, (z13.2).2.2.2.1, (z13.2).2.2.2.2.1, (z13.2).2.2.2.2.2.1, (z13.2).2.2.2.2.2.2.1, (z13.2).2.2.2.2.2.2.2.1, (z13.2).2.2.2.2.2.2.2.2.1, (z13.2).2.2.2.2.2.2.2.2.2.1, (z13.2).2.2.2.2.2.2.2.2.2.2.1, (z13.2).2.2.2.2.2.2.2.2.2.2.2.1, (z13.2).2.2.2.2.2.2.2.2.2.2.2.2.1, (z13.2).2.2.2.2.2.2.2.2.2.2.2.2.2.1, (z13.2).2.2.2.2.2.2.2.2.2.2.2.2.2.2.1, (z13.2).2.2.2.2.2.2.2.2.2.2.2.2.2.2.2.1, (upd ((z13.2).2.2.2.2.2.2.2.2.2.2.2.2.2.2.2.2.1) (((24 * y1) + (3 * z13.1)) : Int32).toNatClampNeg (((z13.2).2.2.2.1) (z13.1 : Int32).toNatClampNeg)), (z13.2).2.2.2.2.2.2.2.2.2.2.2.2.2.2.2.2.2)) H := hP
        have hD : va_D A0 (modelW k a ((z13.2).1, (z13.2).2.1, (z13.2).2.2.1, (z13.2).2.2.2.1, (z13.2).2.2.2.2.1, (z13.2).2.2.2.2.2.1, (z13.2).2.2.2.2.2.2.1, (z13.2).2.2.2.2.2.2.2.1, (z13.2).2.2.2.2.2.2.2.2.1, (z13.2).2.2.2.2.2.2.2.2.2.1, (z13.2).2.2.2.2.2.2.2.2.2.2.1, (z13.2).2.2.2.2.2.2.2.2.2.2.2.1, (z13.2).2.2.2.2.2.2.2.2.2.2.2.2.1, (z13.2).2.2.2.2.2.2.2.2.2.2.2.2.2.1, (z13.2).2.2.2.2.2.2.2.2.2.2.2.2.2.2.1, (z13.2).2.2.2.2.2.2.2.2.2.2.2.2.2.2.2.1, (upd ((z13.2).2.2.2.2.2.2.2.2.2.2.2.2.2.2.2.2.1) (((24 * y1) + (3 * z13.1)) : Int32).toNatClampNeg (((z13.2).2.2.2.1) (z13.1 : Int32).toNatClampNeg)), (z13.2).2.2.2.2.2.2.2.2.2.2.2.2.2.2.2.2.2)) := hD
        refine lv_aload_n hx hb dX5_image_90 rfl (lv_at hl 0 rfl) ?_
        refine va_get (D := D) (ci := 5) (v := .ref (a 12)) (C := RX5) (T := TX5) (N := 19) hx hb hts hiRX5 hown hK hP 0 rfl rfl 16 (by decide) hf44 (fun _ h9 => h9) rfl dX5_image_91 ?_
        refine lv_bipush (v := 24) hx hb dX5_image_94 (by decide) ?_
        refine lv_iload_n hx hb dX5_image_96 rfl (lv_at hl 1 rfl) ?_
        refine lv_imul hx hb dX5_image_97 ?_
        refine lv_iconst (v := 3) hx hb dX5_image_98 (by decide) ?_
        refine lv_iload_n hx hb dX5_image_99 rfl (lv_at hl 2 rfl) ?_
        refine lv_imul hx hb dX5_image_100 ?_
        refine lv_iadd hx hb dX5_image_101 ?_
        refine lv_iconst (v := 1) hx hb dX5_image_102 (by decide) ?_
        refine lv_iadd hx hb dX5_image_103 ?_
        refine lv_aload_n hx hb dX5_image_104 rfl (lv_at hl 0 rfl) ?_
        refine va_get (D := D) (ci := 5) (v := .ref (a 4)) (C := RX5) (T := TX5) (N := 19) hx hb hts hiRX5 hown hK hP 0 rfl rfl 4 (by decide) hf19 (fun _ h9 => h9) rfl dX5_image_105 ?_
        refine lv_iload_n hx hb dX5_image_108 rfl (lv_at hl 2 rfl) ?_
        obtain ⟨c36, hB14⟩ := gd_s hB14
        refine va_iald (D := D) hx hb hK hP 4 0 rfl rfl (ix_in c36) dX5_image_109 ?_
        obtain ⟨c37, hB14⟩ := gd_s hB14
        refine va_iast (D := D) hx hb hK hP hD hS 12 0 rfl rfl (ix_in c37) dX5_image_110 (fun H locs hP hD hS => ?_)
        have hP : va_P D vwCl (modelW k a ((z13.2).1, (z13.2).2.1, (z13.2).2.2.1, (z13.2).2.2.2.1, (z13.2).2.2.2.2.1, (z13.2).2.2.2.2.2.1, (z13.2).2.2.2.2.2.2.1, (z13.2).2.2.2.2.2.2.2.1, (z13.2).2.2.2.2.2.2.2.2.1, (z13.2).2.2.2.2.2.2.2.2.2.1, (z13.2).2.2.2.2.2.2.2.2.2.2.1, (z13.2).2.2.2.2.2.2.2.2.2.2.2.1, (z13.2).2.2.2.2.2.2.2.2.2.2.2.2.1, (z13.2).2.2.2.2.2.2.2.2.2.2.2.2.2.1, (z13.2).2.2.2.2.2.2.2.2.2.2.2.2.2.2.1, (z13.2).2.2.2.2.2.2.2.2.2.2.2.2.2.2.2.1, (upd (upd ((z13.2).2.2.2.2.2.2.2.2.2.2.2.2.2.2.2.2.1) (((24 * y1) + (3 * z13.1)) : Int32).toNatClampNeg (((z13.2).2.2.2.1) (z13.1 : Int32).toNatClampNeg)) ((((24 * y1) + (3 * z13.1)) + 1) : Int32).toNatClampNeg (((z13.2).2.2.2.2.1) (z13.1 : Int32).toNatClampNeg)), (z13.2).2.2.2.2.2.2.2.2.2.2.2.2.2.2.2.2.2)) H := hP
        have hD : va_D A0 (modelW k a ((z13.2).1, (z13.2).2.1, (z13.2).2.2.1, (z13.2).2.2.2.1, (z13.2).2.2.2.2.1, (z13.2).2.2.2.2.2.1, (z13.2).2.2.2.2.2.2.1, (z13.2).2.2.2.2.2.2.2.1, (z13.2).2.2.2.2.2.2.2.2.1, (z13.2).2.2.2.2.2.2.2.2.2.1, (z13.2).2.2.2.2.2.2.2.2.2.2.1, (z13.2).2.2.2.2.2.2.2.2.2.2.2.1, (z13.2).2.2.2.2.2.2.2.2.2.2.2.2.1, (z13.2).2.2.2.2.2.2.2.2.2.2.2.2.2.1, (z13.2).2.2.2.2.2.2.2.2.2.2.2.2.2.2.1, (z13.2).2.2.2.2.2.2.2.2.2.2.2.2.2.2.2.1, (upd (upd ((z13.2).2.2.2.2.2.2.2.2.2.2.2.2.2.2.2.2.1) (((24 * y1) + (3 * z13.1)) : Int32).toNatClampNeg (((z13.2).2.2.2.1) (z13.1 : Int32).toNatClampNeg)) ((((24 * y1) + (3 * z13.1)) + 1) : Int32).toNatClampNeg (((z13.2).2.2.2.2.1) (z13.1 : Int32).toNatClampNeg)), (z13.2).2.2.2.2.2.2.2.2.2.2.2.2.2.2.2.2.2)) := hD
        refine lv_aload_n hx hb dX5_image_111 rfl (lv_at hl 0 rfl) ?_
        refine va_get (D := D) (ci := 5) (v := .ref (a 12)) (C := RX5) (T := TX5) (N := 19) hx hb hts hiRX5 hown hK hP 0 rfl rfl 16 (by decide) hf44 (fun _ h9 => h9) rfl dX5_image_112 ?_
        refine lv_bipush (v := 24) hx hb dX5_image_115 (by decide) ?_
        refine lv_iload_n hx hb dX5_image_117 rfl (lv_at hl 1 rfl) ?_
        refine lv_imul hx hb dX5_image_118 ?_
        refine lv_iconst (v := 3) hx hb dX5_image_119 (by decide) ?_
        refine lv_iload_n hx hb dX5_image_120 rfl (lv_at hl 2 rfl) ?_
        refine lv_imul hx hb dX5_image_121 ?_
        refine lv_iadd hx hb dX5_image_122 ?_
        refine lv_iconst (v := 2) hx hb dX5_image_123 (by decide) ?_
        refine lv_iadd hx hb dX5_image_124 ?_
        refine lv_aload_n hx hb dX5_image_125 rfl (lv_at hl 0 rfl) ?_
        refine va_get (D := D) (ci := 5) (v := .ref (a 5)) (C := RX5) (T := TX5) (N := 19) hx hb hts hiRX5 hown hK hP 0 rfl rfl 5 (by decide) hf22 (fun _ h9 => h9) rfl dX5_image_126 ?_
        refine lv_iload_n hx hb dX5_image_129 rfl (lv_at hl 2 rfl) ?_
        obtain ⟨c38, hB14⟩ := gd_s hB14
        refine va_iald (D := D) hx hb hK hP 5 0 rfl rfl (ix_in c38) dX5_image_130 ?_
        obtain ⟨c39, hB14⟩ := gd_s hB14
        refine va_iast (D := D) hx hb hK hP hD hS 12 0 rfl rfl (ix_in c39) dX5_image_131 (fun H locs hP hD hS => ?_)
        have hP : va_P D vwCl (modelW k a ((z13.2).1, (z13.2).2.1, (z13.2).2.2.1, (z13.2).2.2.2.1, (z13.2).2.2.2.2.1, (z13.2).2.2.2.2.2.1, (z13.2).2.2.2.2.2.2.1, (z13.2).2.2.2.2.2.2.2.1, (z13.2).2.2.2.2.2.2.2.2.1, (z13.2).2.2.2.2.2.2.2.2.2.1, (z13.2).2.2.2.2.2.2.2.2.2.2.1, (z13.2).2.2.2.2.2.2.2.2.2.2.2.1, (z13.2).2.2.2.2.2.2.2.2.2.2.2.2.1, (z13.2).2.2.2.2.2.2.2.2.2.2.2.2.2.1, (z13.2).2.2.2.2.2.2.2.2.2.2.2.2.2.2.1, (z13.2).2.2.2.2.2.2.2.2.2.2.2.2.2.2.2.1, (upd (upd (upd ((z13.2).2.2.2.2.2.2.2.2.2.2.2.2.2.2.2.2.1) (((24 * y1) + (3 * z13.1)) : Int32).toNatClampNeg (((z13.2).2.2.2.1) (z13.1 : Int32).toNatClampNeg)) ((((24 * y1) + (3 * z13.1)) + 1) : Int32).toNatClampNeg (((z13.2).2.2.2.2.1) (z13.1 : Int32).toNatClampNeg)) ((((24 * y1) + (3 * z13.1)) + 2) : Int32).toNatClampNeg (((z13.2).2.2.2.2.2.1) (z13.1 : Int32).toNatClampNeg)), (z13.2).2.2.2.2.2.2.2.2.2.2.2.2.2.2.2.2.2)) H := hP
        have hD : va_D A0 (modelW k a ((z13.2).1, (z13.2).2.1, (z13.2).2.2.1, (z13.2).2.2.2.1, (z13.2).2.2.2.2.1, (z13.2).2.2.2.2.2.1, (z13.2).2.2.2.2.2.2.1, (z13.2).2.2.2.2.2.2.2.1, (z13.2).2.2.2.2.2.2.2.2.1, (z13.2).2.2.2.2.2.2.2.2.2.1, (z13.2).2.2.2.2.2.2.2.2.2.2.1, (z13.2).2.2.2.2.2.2.2.2.2.2.2.1, (z13.2).2.2.2.2.2.2.2.2.2.2.2.2.1, (z13.2).2.2.2.2.2.2.2.2.2.2.2.2.2.1, (z13.2).2.2.2.2.2.2.2.2.2.2.2.2.2.2.1, (z13.2).2.2.2.2.2.2.2.2.2.2.2.2.2.2.2.1, (upd (upd (upd ((z13.2).2.2.2.2.2.2.2.2.2.2.2.2.2.2.2.2.1) (((24 * y1) + (3 * z13.1)) : Int32).toNatClampNeg (((z13.2).2.2.2.1) (z13.1 : Int32).toNatClampNeg)) ((((24 * y1) + (3 * z13.1)) + 1) : Int32).toNatClampNeg (((z13.2).2.2.2.2.1) (z13.1 : Int32).toNatClampNeg)) ((((24 * y1) + (3 * z13.1)) + 2) : Int32).toNatClampNeg (((z13.2).2.2.2.2.2.1) (z13.1 : Int32).toNatClampNeg)), (z13.2).2.2.2.2.2.2.2.2.2.2.2.2.2.2.2.2.2)) := hD
        refine lv_iinc (v := (z13.1 + 1)) (lv' := [(2, .int (z13.1 + 1)), (0, .ref (a 0)), (1, .int y1)]) hx hb dX5_image_132 hl (k := 2) rfl rfl (by decide) rfl (fun ls hl => ?_)
        refine lv_goto (tgt := 65) hx hb dX5_image_135 (by decide) ?_
        exact kI16 _ (Option.some.inj hB14).symm ls H locs (lv_sub hl [1, 2, 0] rfl) hP hD hS
    refine lp_W (P := fun z6 => ∀ (ls : Array Slot) (H : Heap) (locs : List Loc), lv_has ls 3 [(0, .ref (a 0)), (1, .int y1), (2, .int z6.1)] → va_P D vwCl (modelW k a z6.2) H → va_D A0 (modelW k a z6.2) → va_S A0 s.heap H locs → W p l e rm_X5_image s m args below meth c H locs 0 0 Q (F0 m 14 ls [])) (E := fun x4 => ∀ (ls : Array Slot) (H : Heap) (locs : List Loc), lv_has ls 3 [(0, .ref (a 0)), (1, .int y1)] → va_P D vwCl (modelW k a x4) H → va_D A0 (modelW k a x4) → va_S A0 s.heap H locs → W p l e rm_X5_image s m args below meth c H locs 0 0 Q (F0 m 63 ls [])) (fun z6 xx8 hB7 kI9 kE10 => ?_) _ _ _ h5 K46 ls s.heap [] (lv_sub hl [1, 2, 0] rfl) hP hD hS
    intro ls H locs hl hP hD hS
    unfold f_X5_image_L14 at hB7
    refine lv_iload_n hx hb dX5_image_14 rfl (lv_at hl 2 rfl) ?_
    refine lv_bipush (v := 16) hx hb dX5_image_15 (by decide) ?_
    refine lv_icmp_ge (tgt := 63) hx hb dX5_image_17 (by decide) (fun c41 => ?_) (fun c41 => ?_)
    · have hB7 := if_t hB7 c41
      exact kE10 _ (Option.some.inj hB7).symm ls H locs (lv_sub hl [0, 1] rfl) hP hD hS
    · have hB7 := if_f hB7 c41
      refine lv_aload_n hx hb dX5_image_20 rfl (lv_at hl 0 rfl) ?_
      refine va_get (D := D) (ci := 5) (v := .ref (a 10)) (C := RX5) (T := TX5) (N := 19) hx hb hts hiRX5 hown hK hP 0 rfl rfl 14 (by decide) hf38 (fun _ h9 => h9) rfl dX5_image_21 ?_
      refine lv_bipush (v := 32) hx hb dX5_image_24 (by decide) ?_
      refine lv_iload_n hx hb dX5_image_26 rfl (lv_at hl 1 rfl) ?_
      refine lv_imul hx hb dX5_image_27 ?_
      refine lv_iload_n hx hb dX5_image_28 rfl (lv_at hl 2 rfl) ?_
      refine lv_iadd hx hb dX5_image_29 ?_
      refine lv_aload_n hx hb dX5_image_30 rfl (lv_at hl 0 rfl) ?_
      refine va_get (D := D) (ci := 5) (v := .ref (a 1)) (C := RX5) (T := TX5) (N := 19) hx hb hts hiRX5 hown hK hP 0 rfl rfl 0 (by decide) hf7 (fun _ h9 => h9) rfl dX5_image_31 ?_
      refine lv_iload_n hx hb dX5_image_34 rfl (lv_at hl 2 rfl) ?_
      obtain ⟨c42, hB7⟩ := gd_s hB7
      refine va_iald (D := D) hx hb hK hP 1 0 rfl rfl (ix_in c42) dX5_image_35 ?_
      obtain ⟨c43, hB7⟩ := gd_s hB7
      refine va_iast (D := D) hx hb hK hP hD hS 10 0 rfl rfl (ix_in c43) dX5_image_36 (fun H locs hP hD hS => ?_)
      have hP : va_P D vwCl (modelW k a ((z6.2).1, (z6.2).2.1, (z6.2).2.2.1, (z6.2).2.2.2.1, (z6.2).2.2.2.2.1, (z6.2).2.2.2.2.2.1, (z6.2).2.2.2.2.2.2.1, (z6.2).2.2.2.2.2.2.2.1, (z6.2).2.2.2.2.2.2.2.2.1, (z6.2).2.2.2.2.2.2.2.2.2.1, (z6.2).2.2.2.2.2.2.2.2.2.2.1, (z6.2).2.2.2.2.2.2.2.2.2.2.2.1, (z6.2).2.2.2.2.2.2.2.2.2.2.2.2.1, (z6.2).2.2.2.2.2.2.2.2.2.2.2.2.2.1, (upd ((z6.2).2.2.2.2.2.2.2.2.2.2.2.2.2.2.1) (((32 * y1) + z6.1) : Int32).toNatClampNeg (((z6.2).1) (z6.1 : Int32).toNatClampNeg)), (z6.2).2.2.2.2.2.2.2.2.2.2.2.2.2.2.2)) H := hP
      have hD : va_D A0 (modelW k a ((z6.2).1, (z6.2).2.1, (z6.2).2.2.1, (z6.2).2.2.2.1, (z6.2).2.2.2.2.1, (z6.2).2.2.2.2.2.1, (z6.2).2.2.2.2.2.2.1, (z6.2).2.2.2.2.2.2.2.1, (z6.2).2.2.2.2.2.2.2.2.1, (z6.2).2.2.2.2.2.2.2.2.2.1, (z6.2).2.2.2.2.2.2.2.2.2.2.1, (z6.2).2.2.2.2.2.2.2.2.2.2.2.1, (z6.2).2.2.2.2.2.2.2.2.2.2.2.2.1, (z6.2).2.2.2.2.2.2.2.2.2.2.2.2.2.1, (upd ((z6.2).2.2.2.2.2.2.2.2.2.2.2.2.2.2.1) (((32 * y1) + z6.1) : Int32).toNatClampNeg (((z6.2).1) (z6.1 : Int32).toNatClampNeg)), (z6.2).2.2.2.2.2.2.2.2.2.2.2.2.2.2.2)) := hD
      refine lv_aload_n hx hb dX5_image_37 rfl (lv_at hl 0 rfl) ?_
      refine va_get (D := D) (ci := 5) (v := .ref (a 10)) (C := RX5) (T := TX5) (N := 19) hx hb hts hiRX5 hown hK hP 0 rfl rfl 14 (by decide) hf38 (fun _ h9 => h9) rfl dX5_image_38 ?_
      refine lv_bipush (v := 32) hx hb dX5_image_41 (by decide) ?_
      refine lv_iload_n hx hb dX5_image_43 rfl (lv_at hl 1 rfl) ?_
      refine lv_imul hx hb dX5_image_44 ?_
      refine lv_bipush (v := 16) hx hb dX5_image_45 (by decide) ?_
      refine lv_iadd hx hb dX5_image_47 ?_
      refine lv_iload_n hx hb dX5_image_48 rfl (lv_at hl 2 rfl) ?_
      refine lv_iadd hx hb dX5_image_49 ?_
      refine lv_aload_n hx hb dX5_image_50 rfl (lv_at hl 0 rfl) ?_
      refine va_get (D := D) (ci := 5) (v := .ref (a 2)) (C := RX5) (T := TX5) (N := 19) hx hb hts hiRX5 hown hK hP 0 rfl rfl 1 (by decide) hf13 (fun _ h9 => h9) rfl dX5_image_51 ?_
      refine lv_iload_n hx hb dX5_image_54 rfl (lv_at hl 2 rfl) ?_
      obtain ⟨c44, hB7⟩ := gd_s hB7
      refine va_iald (D := D) hx hb hK hP 2 0 rfl rfl (ix_in c44) dX5_image_55 ?_
      obtain ⟨c45, hB7⟩ := gd_s hB7
      refine va_iast (D := D) hx hb hK hP hD hS 10 0 rfl rfl (ix_in c45) dX5_image_56 (fun H locs hP hD hS => ?_)
      have hP : va_P D vwCl (modelW k a ((z6.2).1, (z6.2).2.1, (z6.2).2.2.1, (z6.2).2.2.2.1, (z6.2).2.2.2.2.1, (z6.2).2.2.2.2.2.1, (z6.2).2.2.2.2.2.2.1, (z6.2).2.2.2.2.2.2.2.1, (z6.2).2.2.2.2.2.2.2.2.1, (z6.2).2.2.2.2.2.2.2.2.2.1, (z6.2).2.2.2.2.2.2.2.2.2.2.1, (z6.2).2.2.2.2.2.2.2.2.2.2.2.1, (z6.2).2.2.2.2.2.2.2.2.2.2.2.2.1, (z6.2).2.2.2.2.2.2.2.2.2.2.2.2.2.1, (upd (upd ((z6.2).2.2.2.2.2.2.2.2.2.2.2.2.2.2.1) (((32 * y1) + z6.1) : Int32).toNatClampNeg (((z6.2).1) (z6.1 : Int32).toNatClampNeg)) ((((32 * y1) + 16) + z6.1) : Int32).toNatClampNeg (((z6.2).2.1) (z6.1 : Int32).toNatClampNeg)), (z6.2).2.2.2.2.2.2.2.2.2.2.2.2.2.2.2)) H := hP
      have hD : va_D A0 (modelW k a ((z6.2).1, (z6.2).2.1, (z6.2).2.2.1, (z6.2).2.2.2.1, (z6.2).2.2.2.2.1, (z6.2).2.2.2.2.2.1, (z6.2).2.2.2.2.2.2.1, (z6.2).2.2.2.2.2.2.2.1, (z6.2).2.2.2.2.2.2.2.2.1, (z6.2).2.2.2.2.2.2.2.2.2.1, (z6.2).2.2.2.2.2.2.2.2.2.2.1, (z6.2).2.2.2.2.2.2.2.2.2.2.2.1, (z6.2).2.2.2.2.2.2.2.2.2.2.2.2.1, (z6.2).2.2.2.2.2.2.2.2.2.2.2.2.2.1, (upd (upd ((z6.2).2.2.2.2.2.2.2.2.2.2.2.2.2.2.1) (((32 * y1) + z6.1) : Int32).toNatClampNeg (((z6.2).1) (z6.1 : Int32).toNatClampNeg)) ((((32 * y1) + 16) + z6.1) : Int32).toNatClampNeg (((z6.2).2.1) (z6.1 : Int32).toNatClampNeg)), (z6.2).2.2.2.2.2.2.2.2.2.2.2.2.2.2.2)) := hD
      refine lv_iinc (v := (z6.1 + 1)) (lv' := [(2, .int (z6.1 + 1)), (0, .ref (a 0)), (1, .int y1)]) hx hb dX5_image_57 hl (k := 2) rfl rfl (by decide) rfl (fun ls hl => ?_)
      refine lv_goto (tgt := 14) hx hb dX5_image_60 (by decide) ?_
      exact kI9 _ (Option.some.inj hB7).symm ls H locs (lv_sub hl [1, 2, 0] rfl) hP hD hS
  · have h := if_t h c3
    refine lv_bipush (v := (-2)) hx hb dX5_image_9 (by decide) ?_
    obtain rfl := Option.some.inj h
    exact hQ _ _ _ _ dX5_image_11 hP hS

abbrev rm_X5_restore : Room := { frames := 1, cells := 0, slots := 0, locals := 22 }
def f_X5_restore_L26 (y1 : Int32) (z : Int32 × ModelV) : Option ((Int32 × ModelV) ⊕ (ModelV)) := if 16 ≤ z.1 then (some (.inr z.2)) else (gd (ix ((32 * y1) + z.1) 64) (gd (ix z.1 16) (gd (ix (((32 * y1) + 16) + z.1) 64) (gd (ix z.1 16) (some (.inl ((z.1 + 1), ((upd ((z.2).1) (z.1 : Int32).toNatClampNeg (((z.2).2.2.2.2.2.2.2.2.2.2.2.2.2.2.1) (((32 * y1) + z.1) : Int32).toNatClampNeg)), (upd ((z.2).2.1) (z.1 : Int32).toNatClampNeg (((z.2).2.2.2.2.2.2.2.2.2.2.2.2.2.2.1) ((((32 * y1) + 16) + z.1) : Int32).toNatClampNeg)), (z.2).2.2))))))))
def f_X5_restore_L77 (y1 : Int32) (z : Int32 × ModelV) : Option ((Int32 × ModelV) ⊕ (ModelV)) := if 8 ≤ z.1 then (some (.inr z.2)) else (gd (ix ((24 * y1) + (3 * z.1)) 48) (gd (ix z.1 8) (gd (ix (((24 * y1) + (3 * z.1)) + 1) 48) (gd (ix z.1 8) (gd (ix (((24 * y1) + (3 * z.1)) + 2) 48) (gd (ix z.1 8) (some (.inl ((z.1 + 1), ((z.2).1, (z.2).2.1, (z.2).2.2.1, (upd ((z.2).2.2.2.1) (z.1 : Int32).toNatClampNeg (((z.2).2.2.2.2.2.2.2.2.2.2.2.2.2.2.2.2.1) (((24 * y1) + (3 * z.1)) : Int32).toNatClampNeg)), (upd ((z.2).2.2.2.2.1) (z.1 : Int32).toNatClampNeg (((z.2).2.2.2.2.2.2.2.2.2.2.2.2.2.2.2.2.1) ((((24 * y1) + (3 * z.1)) + 1) : Int32).toNatClampNeg)), (upd ((z.2).2.2.2.2.2.1) (z.1 : Int32).toNatClampNeg (((z.2).2.2.2.2.2.2.2.2.2.2.2.2.2.2.2.2.1) ((((24 * y1) + (3 * z.1)) + 2) : Int32).toNatClampNeg)), (z.2).2.2.2.2.2.2))))))))))
def f_X5_restore_L152 (y1 : Int32) (z : Int32 × ModelV) : Option ((Int32 × ModelV) ⊕ (ModelV)) := if 512 ≤ z.1 then (some (.inr z.2)) else (gd (ix ((512 * y1) + z.1) 1024) (gd (ix z.1 512) (gd (ix ((512 * y1) + z.1) 1024) (gd (ix z.1 512) (some (.inl ((z.1 + 1), ((z.2).1, (z.2).2.1, (z.2).2.2.1, (z.2).2.2.2.1, (z.2).2.2.2.2.1, (z.2).2.2.2.2.2.1, (upd ((z.2).2.2.2.2.2.2.1) (z.1 : Int32).toNatClampNeg (vp_nar .boolean (((z.2).2.2.2.2.2.2.2.2.2.2.2.2.2.2.2.2.2.1) (((512 * y1) + z.1) : Int32).toNatClampNeg))), (upd ((z.2).2.2.2.2.2.2.2.1) (z.1 : Int32).toNatClampNeg (((z.2).2.2.2.2.2.2.2.2.2.2.2.2.2.2.2.2.2.2) (((512 * y1) + z.1) : Int32).toNatClampNeg)), (z.2).2.2.2.2.2.2.2.2))))))))
def f_X5_restore (M : ModelV) (y1 : Int32) : Option (Int32 × ModelV) := (f_X5_in y1 0 1).bind (fun x1 => if (b2i x1) = 0 then (some ((-2), M)) else (gd (ix y1 2) (if (M.2.2.2.2.2.2.2.2.2.2.2.2.2.1 (y1 : Int32).toNatClampNeg) = 0 then (some ((-3), M)) else ((lp (f_X5_restore_L26 y1) fu (0, M)).bind (fun x6 => (lp (f_X5_restore_L77 y1) fu (0, x6)).bind (fun x13 => (lp (f_X5_restore_L152 y1) fu (0, x13)).bind (fun x20 => gd (ix y1 2) (some (1, (x20.1, x20.2.1, (x20.2.2.2.2.2.2.2.2.2.2.2.2.2.2.2.1 (y1 : Int32).toNatClampNeg), x20.2.2.2.1, x20.2.2.2.2.1, x20.2.2.2.2.2.1, x20.2.2.2.2.2.2.1, x20.2.2.2.2.2.2.2.1, x20.2.2.2.2.2.2.2.2.1, 0, x20.2.2.2.2.2.2.2.2.2.2))))))))))
set_option maxHeartbeats 4000000 in
set_option maxRecDepth 100000 in
theorem c_X5_restore (l : Launch) (D : va_G) (k : Nat → ClassId) (a : Nat → Nat) (M : ModelV) (y1 : Int32) (r : Int32 × ModelV) (h : f_X5_restore M y1 = some r) : Met l yX5_restore wsX5_restore rm_X5_restore (va_Pc [.ref (a 0), .int y1] (MB D k (modelW k a M))) (QM D (modelW k a M) (modelW k a r.2) (some (.int r.1))) 0 0 (AD (modelW k a M)) := by
  refine met_Mi (by decide) rfl (Nat.le_of_ble_eq_true rfl) ?_
  intro p e s m below meth c Q args ls hx hb hml hown hts hP hK hN hD hl hQ
  have hl : lv_has ls 3 [(0, .ref (a 0)), (1, .int y1)] := hl
  have hown : s.vm.findClass RX5 = some m.cls := hown
  unfold f_X5_restore at h
  have hiRX5 : ∀ w ∈ u_ws RX5 TX5 19, w ∈ wsX5_restore := by decide +kernel
  have hf35 := hts (.fieldLink RX5 35 "RainCellsModel" "isKept" "[Z") (by decide +kernel)
  have hf7 := hts (.fieldLink RX5 7 "RainCellsModel" "from" "[I") (by decide +kernel)
  have hf38 := hts (.fieldLink RX5 38 "RainCellsModel" "imageRows" "[I") (by decide +kernel)
  have hf13 := hts (.fieldLink RX5 13 "RainCellsModel" "to" "[I") (by decide +kernel)
  have hf16 := hts (.fieldLink RX5 16 "RainCellsModel" "px" "[I") (by decide +kernel)
  have hf44 := hts (.fieldLink RX5 44 "RainCellsModel" "imageGauges" "[I") (by decide +kernel)
  have hf19 := hts (.fieldLink RX5 19 "RainCellsModel" "py" "[I") (by decide +kernel)
  have hf22 := hts (.fieldLink RX5 22 "RainCellsModel" "reach" "[I") (by decide +kernel)
  have hf25 := hts (.fieldLink RX5 25 "RainCellsModel" "isOut" "[Z") (by decide +kernel)
  have hf47 := hts (.fieldLink RX5 47 "RainCellsModel" "imageOut" "[Z") (by decide +kernel)
  have hf29 := hts (.fieldLink RX5 29 "RainCellsModel" "readings" "[I") (by decide +kernel)
  have hf50 := hts (.fieldLink RX5 50 "RainCellsModel" "imageReadings" "[I") (by decide +kernel)
  have hf41 := hts (.fieldLink RX5 41 "RainCellsModel" "imageMany" "[I") (by decide +kernel)
  have hf53 := hts (.fieldLink RX5 53 "RainCellsModel" "many" "I") (by decide +kernel)
  have hf61 := hts (.fieldLink RX5 61 "RainCellsModel" "kept" "I") (by decide +kernel)
  generalize AD (modelW k a M) = A0 at hD hQ
  have hS : va_S A0 s.heap s.heap [] := va_S.rf
  refine lv_iload_n hx hb dX5_restore_0 rfl (lv_at hl 1 rfl) ?_
  refine lv_iconst (v := 0) hx hb dX5_restore_1 (by decide) ?_
  refine lv_iconst (v := 1) hx hb dX5_restore_2 (by decide) ?_
  obtain ⟨x1, h2, h⟩ := bd_s h
  refine cR_S (As := [.int y1, .int 0, .int 1]) (rest := []) (n := 3) (v := .int (b2i x1)) hx hb hml hown hts hK hN hl.1 (c_X5_in l D k y1 0 1 x1 h2) gX5_restore_X5_in rfl (by decide +kernel) ⟨⟨rfl, rfl⟩, by decide, by decide⟩ va_P_nil rfl rfl (Nat.le_of_ble_eq_true rfl) dX5_restore_3 ⟨Nat.zero_le _, Nat.zero_le _⟩ ?_
  refine lv_if_ne (tgt := 12) hx hb dX5_restore_6 (by decide) (fun c3 => ?_) (fun c3 => ?_)
  · have h := if_f h c3
    refine lv_aload_n hx hb dX5_restore_12 rfl (lv_at hl 0 rfl) ?_
    refine va_get (D := D) (ci := 5) (v := .ref (a 9)) (C := RX5) (T := TX5) (N := 19) hx hb hts hiRX5 hown hK hP 0 rfl rfl 13 (by decide) hf35 (fun _ h9 => h9) rfl dX5_restore_13 ?_
    refine lv_iload_n hx hb dX5_restore_16 rfl (lv_at hl 1 rfl) ?_
    obtain ⟨c4, h⟩ := gd_s h
    refine va_zald (D := D) hx hb hK hP 9 2 rfl rfl (ix_in c4) dX5_restore_17 ?_
    refine lv_if_ne (tgt := 24) hx hb dX5_restore_18 (by decide) (fun c5 => ?_) (fun c5 => ?_)
    · have h := if_f h c5
      refine lv_iconst (v := 0) hx hb dX5_restore_24 (by decide) ?_
      refine lv_istore_n (lv' := [(2, .int 0), (0, .ref (a 0)), (1, .int y1)]) hx hb dX5_restore_25 rfl hl (by decide) rfl (fun ls hl => ?_)
      obtain ⟨x6, h7, h⟩ := bd_s h
      have K47 : ∀ (ls : Array Slot) (H : Heap) (locs : List Loc), lv_has ls 3 [(0, .ref (a 0)), (1, .int y1)] → va_P D vwCl (modelW k a x6) H → va_D A0 (modelW k a x6) → va_S A0 s.heap H locs → W p l e rm_X5_restore s m args below meth c H locs 0 0 Q (F0 m 75 ls []) := by
        intro ls H locs hl hP hD hS
        refine lv_iconst (v := 0) hx hb dX5_restore_75 (by decide) ?_
        refine lv_istore_n (lv' := [(2, .int 0), (0, .ref (a 0)), (1, .int y1)]) hx hb dX5_restore_76 rfl hl (by decide) rfl (fun ls hl => ?_)
        obtain ⟨x13, h14, h⟩ := bd_s h
        have K41 : ∀ (ls : Array Slot) (H : Heap) (locs : List Loc), lv_has ls 3 [(0, .ref (a 0)), (1, .int y1)] → va_P D vwCl (modelW k a x13) H → va_D A0 (modelW k a x13) → va_S A0 s.heap H locs → W p l e rm_X5_restore s m args below meth c H locs 0 0 Q (F0 m 150 ls []) := by
          intro ls H locs hl hP hD hS
          refine lv_iconst (v := 0) hx hb dX5_restore_150 (by decide) ?_
          refine lv_istore_n (lv' := [(2, .int 0), (0, .ref (a 0)), (1, .int y1)]) hx hb dX5_restore_151 rfl hl (by decide) rfl (fun ls hl => ?_)
          obtain ⟨x20, h21, h⟩ := bd_s h
          have K33 : ∀ (ls : Array Slot) (H : Heap) (locs : List Loc), lv_has ls 3 [(0, .ref (a 0)), (1, .int y1)] → va_P D vwCl (modelW k a x20) H → va_D A0 (modelW k a x20) → va_S A0 s.heap H locs → W p l e rm_X5_restore s m args below meth c H locs 0 0 Q (F0 m 201 ls []) := by
            intro ls H locs hl hP hD hS
            refine lv_aload_n hx hb dX5_restore_201 rfl (lv_at hl 0 rfl) ?_
            refine lv_aload_n hx hb dX5_restore_202 rfl (lv_at hl 0 rfl) ?_
            refine va_get (D := D) (ci := 5) (v := .ref (a 11)) (C := RX5) (T := TX5) (N := 19) hx hb hts hiRX5 hown hK hP 0 rfl rfl 15 (by decide) hf41 (fun _ h9 => h9) rfl dX5_restore_203 ?_
            refine lv_iload_n hx hb dX5_restore_206 rfl (lv_at hl 1 rfl) ?_
            obtain ⟨c27, h⟩ := gd_s h
            refine va_iald (D := D) hx hb hK hP 11 0 rfl rfl (ix_in c27) dX5_restore_207 ?_
            refine va_put (D := D) (ci := 5) (v := .int (x20.2.2.2.2.2.2.2.2.2.2.2.2.2.2.2.1 (y1 : Int32).toNatClampNeg)) (ty := .int) (C := RX5) (T := TX5) (N := 19) hx hb hts hiRX5 tyX5 tyX5_ok nmX5 hown hK hP hD hS 0 rfl rfl 2 (by decide) hf53 (fun _ h9 => h9) rfl (by decide +kernel) rfl rfl (Nat.le_of_ble_eq_true rfl) dX5_restore_208 (fun H locs hP hD hS => ?_)
            have hP : va_P D vwCl (modelW k a (x20.1, x20.2.1, (x20.2.2.2.2.2.2.2.2.2.2.2.2.2.2.2.1 (y1 : Int32).toNatClampNeg), x20.2.2.2)) H := hP
            have hD : va_D A0 (modelW k a (x20.1, x20.2.1, (x20.2.2.2.2.2.2.2.2.2.2.2.2.2.2.2.1 (y1 : Int32).toNatClampNeg), x20.2.2.2)) := hD
            refine lv_aload_n hx hb dX5_restore_211 rfl (lv_at hl 0 rfl) ?_
            refine lv_iconst (v := 0) hx hb dX5_restore_212 (by decide) ?_
            refine va_put (D := D) (ci := 5) (v := .int 0) (ty := .int) (C := RX5) (T := TX5) (N := 19) hx hb hts hiRX5 tyX5 tyX5_ok nmX5 hown hK hP hD hS 0 rfl rfl 9 (by decide) hf61 (fun _ h9 => h9) rfl (by decide +kernel) rfl rfl (Nat.le_of_ble_eq_true rfl) dX5_restore_213 (fun H locs hP hD hS => ?_)
            have hP : va_P D vwCl (modelW k a (x20.1, x20.2.1, (x20.2.2.2.2.2.2.2.2.2.2.2.2.2.2.2.1 (y1 : Int32).toNatClampNeg), x20.2.2.2.1, x20.2.2.2.2.1, x20.2.2.2.2.2.1, x20.2.2.2.2.2.2.1, x20.2.2.2.2.2.2.2.1, x20.2.2.2.2.2.2.2.2.1, 0, x20.2.2.2.2.2.2.2.2.2.2)) H := hP
            have hD : va_D A0 (modelW k a (x20.1, x20.2.1, (x20.2.2.2.2.2.2.2.2.2.2.2.2.2.2.2.1 (y1 : Int32).toNatClampNeg), x20.2.2.2.1, x20.2.2.2.2.1, x20.2.2.2.2.2.1, x20.2.2.2.2.2.2.1, x20.2.2.2.2.2.2.2.1, x20.2.2.2.2.2.2.2.2.1, 0, x20.2.2.2.2.2.2.2.2.2.2)) := hD
            refine lv_iconst (v := 1) hx hb dX5_restore_216 (by decide) ?_
            obtain rfl := Option.some.inj h
            exact hQ _ _ _ _ dX5_restore_217 hP hS
          refine lp_W (P := fun z22 => ∀ (ls : Array Slot) (H : Heap) (locs : List Loc), lv_has ls 3 [(0, .ref (a 0)), (1, .int y1), (2, .int z22.1)] → va_P D vwCl (modelW k a z22.2) H → va_D A0 (modelW k a z22.2) → va_S A0 s.heap H locs → W p l e rm_X5_restore s m args below meth c H locs 0 0 Q (F0 m 152 ls [])) (E := fun x20 => ∀ (ls : Array Slot) (H : Heap) (locs : List Loc), lv_has ls 3 [(0, .ref (a 0)), (1, .int y1)] → va_P D vwCl (modelW k a x20) H → va_D A0 (modelW k a x20) → va_S A0 s.heap H locs → W p l e rm_X5_restore s m args below meth c H locs 0 0 Q (F0 m 201 ls [])) (fun z22 xx24 hB23 kI25 kE26 => ?_) _ _ _ h21 K33 ls H locs (lv_sub hl [1, 2, 0] rfl) hP hD hS
          intro ls H locs hl hP hD hS
          unfold f_X5_restore_L152 at hB23
          refine lv_iload_n hx hb dX5_restore_152 rfl (lv_at hl 2 rfl) ?_
          refine lv_sipush (v := 512) hx hb dX5_restore_153 (by decide) ?_
          refine lv_icmp_ge (tgt := 201) hx hb dX5_restore_156 (by decide) (fun c28 => ?_) (fun c28 => ?_)
          · have hB23 := if_t hB23 c28
            exact kE26 _ (Option.some.inj hB23).symm ls H locs (lv_sub hl [0, 1] rfl) hP hD hS
          · have hB23 := if_f hB23 c28
            refine lv_aload_n hx hb dX5_restore_159 rfl (lv_at hl 0 rfl) ?_
            refine va_get (D := D) (ci := 5) (v := .ref (a 6)) (C := RX5) (T := TX5) (N := 19) hx hb hts hiRX5 hown hK hP 0 rfl rfl 6 (by decide) hf25 (fun _ h9 => h9) rfl dX5_restore_160 ?_
            refine lv_iload_n hx hb dX5_restore_163 rfl (lv_at hl 2 rfl) ?_
            refine lv_aload_n hx hb dX5_restore_164 rfl (lv_at hl 0 rfl) ?_
            refine va_get (D := D) (ci := 5) (v := .ref (a 13)) (C := RX5) (T := TX5) (N := 19) hx hb hts hiRX5 hown hK hP 0 rfl rfl 17 (by decide) hf47 (fun _ h9 => h9) rfl dX5_restore_165 ?_
            refine lv_sipush (v := 512) hx hb dX5_restore_168 (by decide) ?_
            refine lv_iload_n hx hb dX5_restore_171 rfl (lv_at hl 1 rfl) ?_
            refine lv_imul hx hb dX5_restore_172 ?_
            refine lv_iload_n hx hb dX5_restore_173 rfl (lv_at hl 2 rfl) ?_
            refine lv_iadd hx hb dX5_restore_174 ?_
            obtain ⟨c29, hB23⟩ := gd_s hB23
            refine va_zald (D := D) hx hb hK hP 13 2 rfl rfl (ix_in c29) dX5_restore_175 ?_
            obtain ⟨c30, hB23⟩ := gd_s hB23
            refine va_zast (D := D) hx hb hK hP hD hS 6 2 rfl rfl (ix_in c30) dX5_restore_176 (fun H locs hP hD hS => ?_)
            have hP : va_P D vwCl (modelW k a ((z22.2).1, (z22.2).2.1, (z22.2).2.2.1, (z22.2).2.2.2.1, (z22.2).2.2.2.2.1, (z22.2).2.2.2.2.2.1, (upd ((z22.2).2.2.2.2.2.2.1) (z22.1 : Int32).toNatClampNeg (vp_nar .boolean (((z22.2).2.2.2.2.2.2.2.2.2.2.2.2.2.2.2.2.2.1) (((512 * y1) + z22.1) : Int32).toNatClampNeg))), (z22.2).2.2.2.2.2.2.2)) H := hP
            have hD : va_D A0 (modelW k a ((z22.2).1, (z22.2).2.1, (z22.2).2.2.1, (z22.2).2.2.2.1, (z22.2).2.2.2.2.1, (z22.2).2.2.2.2.2.1, (upd ((z22.2).2.2.2.2.2.2.1) (z22.1 : Int32).toNatClampNeg (vp_nar .boolean (((z22.2).2.2.2.2.2.2.2.2.2.2.2.2.2.2.2.2.2.1) (((512 * y1) + z22.1) : Int32).toNatClampNeg))), (z22.2).2.2.2.2.2.2.2)) := hD
            refine lv_aload_n hx hb dX5_restore_177 rfl (lv_at hl 0 rfl) ?_
            refine va_get (D := D) (ci := 5) (v := .ref (a 7)) (C := RX5) (T := TX5) (N := 19) hx hb hts hiRX5 hown hK hP 0 rfl rfl 7 (by decide) hf29 (fun _ h9 => h9) rfl dX5_restore_178 ?_
            refine lv_iload_n hx hb dX5_restore_181 rfl (lv_at hl 2 rfl) ?_
            refine lv_aload_n hx hb dX5_restore_182 rfl (lv_at hl 0 rfl) ?_
            refine va_get (D := D) (ci := 5) (v := .ref (a 14)) (C := RX5) (T := TX5) (N := 19) hx hb hts hiRX5 hown hK hP 0 rfl rfl 18 (by decide) hf50 (fun _ h9 => h9) rfl dX5_restore_183 ?_
            refine lv_sipush (v := 512) hx hb dX5_restore_186 (by decide) ?_
            refine lv_iload_n hx hb dX5_restore_189 rfl (lv_at hl 1 rfl) ?_
            refine lv_imul hx hb dX5_restore_190 ?_
            refine lv_iload_n hx hb dX5_restore_191 rfl (lv_at hl 2 rfl) ?_
            refine lv_iadd hx hb dX5_restore_192 ?_
            obtain ⟨c31, hB23⟩ := gd_s hB23
            refine va_iald (D := D) hx hb hK hP 14 0 rfl rfl (ix_in c31) dX5_restore_193 ?_
            obtain ⟨c32, hB23⟩ := gd_s hB23
            refine va_iast (D := D) hx hb hK hP hD hS 7 0 rfl rfl (ix_in c32) dX5_restore_194 (fun H locs hP hD hS => ?_)
            have hP : va_P D vwCl (modelW k a ((z22.2).1, (z22.2).2.1, (z22.2).2.2.1, (z22.2).2.2.2.1, (z22.2).2.2.2.2.1, (z22.2).2.2.2.2.2.1, (upd ((z22.2).2.2.2.2.2.2.1) (z22.1 : Int32).toNatClampNeg (vp_nar .boolean (((z22.2).2.2.2.2.2.2.2.2.2.2.2.2.2.2.2.2.2.1) (((512 * y1) + z22.1) : Int32).toNatClampNeg))), (upd ((z22.2).2.2.2.2.2.2.2.1) (z22.1 : Int32).toNatClampNeg (((z22.2).2.2.2.2.2.2.2.2.2.2.2.2.2.2.2.2.2.2) (((512 * y1) + z22.1) : Int32).toNatClampNeg)), (z22.2).2.2.2.2.2.2.2.2)) H := hP
            have hD : va_D A0 (modelW k a ((z22.2).1, (z22.2).2.1, (z22.2).2.2.1, (z22.2).2.2.2.1, (z22.2).2.2.2.2.1, (z22.2).2.2.2.2.2.1, (upd ((z22.2).2.2.2.2.2.2.1) (z22.1 : Int32).toNatClampNeg (vp_nar .boolean (((z22.2).2.2.2.2.2.2.2.2.2.2.2.2.2.2.2.2.2.1) (((512 * y1) + z22.1) : Int32).toNatClampNeg))), (upd ((z22.2).2.2.2.2.2.2.2.1) (z22.1 : Int32).toNatClampNeg (((z22.2).2.2.2.2.2.2.2.2.2.2.2.2.2.2.2.2.2.2) (((512 * y1) + z22.1) : Int32).toNatClampNeg)), (z22.2).2.2.2.2.2.2.2.2)) := hD
            refine lv_iinc (v := (z22.1 + 1)) (lv' := [(2, .int (z22.1 + 1)), (0, .ref (a 0)), (1, .int y1)]) hx hb dX5_restore_195 hl (k := 2) rfl rfl (by decide) rfl (fun ls hl => ?_)
            refine lv_goto (tgt := 152) hx hb dX5_restore_198 (by decide) ?_
            exact kI25 _ (Option.some.inj hB23).symm ls H locs (lv_sub hl [1, 2, 0] rfl) hP hD hS
        refine lp_W (P := fun z15 => ∀ (ls : Array Slot) (H : Heap) (locs : List Loc), lv_has ls 3 [(0, .ref (a 0)), (1, .int y1), (2, .int z15.1)] → va_P D vwCl (modelW k a z15.2) H → va_D A0 (modelW k a z15.2) → va_S A0 s.heap H locs → W p l e rm_X5_restore s m args below meth c H locs 0 0 Q (F0 m 77 ls [])) (E := fun x13 => ∀ (ls : Array Slot) (H : Heap) (locs : List Loc), lv_has ls 3 [(0, .ref (a 0)), (1, .int y1)] → va_P D vwCl (modelW k a x13) H → va_D A0 (modelW k a x13) → va_S A0 s.heap H locs → W p l e rm_X5_restore s m args below meth c H locs 0 0 Q (F0 m 150 ls [])) (fun z15 xx17 hB16 kI18 kE19 => ?_) _ _ _ h14 K41 ls H locs (lv_sub hl [1, 2, 0] rfl) hP hD hS
        intro ls H locs hl hP hD hS
        unfold f_X5_restore_L77 at hB16
        refine lv_iload_n hx hb dX5_restore_77 rfl (lv_at hl 2 rfl) ?_
        refine lv_bipush (v := 8) hx hb dX5_restore_78 (by decide) ?_
        refine lv_icmp_ge (tgt := 150) hx hb dX5_restore_80 (by decide) (fun c34 => ?_) (fun c34 => ?_)
        · have hB16 := if_t hB16 c34
          exact kE19 _ (Option.some.inj hB16).symm ls H locs (lv_sub hl [0, 1] rfl) hP hD hS
        · have hB16 := if_f hB16 c34
          refine lv_aload_n hx hb dX5_restore_83 rfl (lv_at hl 0 rfl) ?_
          refine va_get (D := D) (ci := 5) (v := .ref (a 3)) (C := RX5) (T := TX5) (N := 19) hx hb hts hiRX5 hown hK hP 0 rfl rfl 3 (by decide) hf16 (fun _ h9 => h9) rfl dX5_restore_84 ?_
          refine lv_iload_n hx hb dX5_restore_87 rfl (lv_at hl 2 rfl) ?_
          refine lv_aload_n hx hb dX5_restore_88 rfl (lv_at hl 0 rfl) ?_
          refine va_get (D := D) (ci := 5) (v := .ref (a 12)) (C := RX5) (T := TX5) (N := 19) hx hb hts hiRX5 hown hK hP 0 rfl rfl 16 (by decide) hf44 (fun _ h9 => h9) rfl dX5_restore_89 ?_
          refine lv_bipush (v := 24) hx hb dX5_restore_92 (by decide) ?_
          refine lv_iload_n hx hb dX5_restore_94 rfl (lv_at hl 1 rfl) ?_
          refine lv_imul hx hb dX5_restore_95 ?_
          refine lv_iconst (v := 3) hx hb dX5_restore_96 (by decide) ?_
          refine lv_iload_n hx hb dX5_restore_97 rfl (lv_at hl 2 rfl) ?_
          refine lv_imul hx hb dX5_restore_98 ?_
          refine lv_iadd hx hb dX5_restore_99 ?_
          obtain ⟨c35, hB16⟩ := gd_s hB16
          refine va_iald (D := D) hx hb hK hP 12 0 rfl rfl (ix_in c35) dX5_restore_100 ?_
          obtain ⟨c36, hB16⟩ := gd_s hB16
          refine va_iast (D := D) hx hb hK hP hD hS 3 0 rfl rfl (ix_in c36) dX5_restore_101 (fun H locs hP hD hS => ?_)
          have hP : va_P D vwCl (modelW k a ((z15.2).1, (z15.2).2.1, (z15.2).2.2.1, (upd ((z15.2).2.2.2.1) (z15.1 : Int32).toNatClampNeg (((z15.2).2.2.2.2.2.2.2.2.2.2.2.2.2.2.2.2.1) (((24 * y1) + (3 * z15.1)) : Int32).toNatClampNeg)), (z15.2).2.2.2.2)) H := hP
          have hD : va_D A0 (modelW k a ((z15.2).1, (z15.2).2.1, (z15.2).2.2.1, (upd ((z15.2).2.2.2.1) (z15.1 : Int32).toNatClampNeg (((z15.2).2.2.2.2.2.2.2.2.2.2.2.2.2.2.2.2.1) (((24 * y1) + (3 * z15.1)) : Int32).toNatClampNeg)), (z15.2).2.2.2.2)) := hD
          refine lv_aload_n hx hb dX5_restore_102 rfl (lv_at hl 0 rfl) ?_
          refine va_get (D := D) (ci := 5) (v := .ref (a 4)) (C := RX5) (T := TX5) (N := 19) hx hb hts hiRX5 hown hK hP 0 rfl rfl 4 (by decide) hf19 (fun _ h9 => h9) rfl dX5_restore_103 ?_
          refine lv_iload_n hx hb dX5_restore_106 rfl (lv_at hl 2 rfl) ?_
          refine lv_aload_n hx hb dX5_restore_107 rfl (lv_at hl 0 rfl) ?_
          refine va_get (D := D) (ci := 5) (v := .ref (a 12)) (C := RX5) (T := TX5) (N := 19) hx hb hts hiRX5 hown hK hP 0 rfl rfl 16 (by decide) hf44 (fun _ h9 => h9) rfl dX5_restore_108 ?_
          refine lv_bipush (v := 24) hx hb dX5_restore_111 (by decide) ?_
          refine lv_iload_n hx hb dX5_restore_113 rfl (lv_at hl 1 rfl) ?_
          refine lv_imul hx hb dX5_restore_114 ?_
          refine lv_iconst (v := 3) hx hb dX5_restore_115 (by decide) ?_
          refine lv_iload_n hx hb dX5_restore_116 rfl (lv_at hl 2 rfl) ?_
          refine lv_imul hx hb dX5_restore_117 ?_
          refine lv_iadd hx hb dX5_restore_118 ?_
          refine lv_iconst (v := 1) hx hb dX5_restore_119 (by decide) ?_
          refine lv_iadd hx hb dX5_restore_120 ?_
          obtain ⟨c37, hB16⟩ := gd_s hB16
          refine va_iald (D := D) hx hb hK hP 12 0 rfl rfl (ix_in c37) dX5_restore_121 ?_
          obtain ⟨c38, hB16⟩ := gd_s hB16
          refine va_iast (D := D) hx hb hK hP hD hS 4 0 rfl rfl (ix_in c38) dX5_restore_122 (fun H locs hP hD hS => ?_)
          have hP : va_P D vwCl (modelW k a ((z15.2).1, (z15.2).2.1, (z15.2).2.2.1, (upd ((z15.2).2.2.2.1) (z15.1 : Int32).toNatClampNeg (((z15.2).2.2.2.2.2.2.2.2.2.2.2.2.2.2.2.2.1) (((24 * y1) + (3 * z15.1)) : Int32).toNatClampNeg)), (upd ((z15.2).2.2.2.2.1) (z15.1 : Int32).toNatClampNeg (((z15.2).2.2.2.2.2.2.2.2.2.2.2.2.2.2.2.2.1) ((((24 * y1) + (3 * z15.1)) + 1) : Int32).toNatClampNeg)), (z15.2).2.2.2.2.2)) H := hP
          have hD : va_D A0 (modelW k a ((z15.2).1, (z15.2).2.1, (z15.2).2.2.1, (upd ((z15.2).2.2.2.1) (z15.1 : Int32).toNatClampNeg (((z15.2).2.2.2.2.2.2.2.2.2.2.2.2.2.2.2.2.1) (((24 * y1) + (3 * z15.1)) : Int32).toNatClampNeg)), (upd ((z15.2).2.2.2.2.1) (z15.1 : Int32).toNatClampNeg (((z15.2).2.2.2.2.2.2.2.2.2.2.2.2.2.2.2.2.1) ((((24 * y1) + (3 * z15.1)) + 1) : Int32).toNatClampNeg)), (z15.2).2.2.2.2.2)) := hD
          refine lv_aload_n hx hb dX5_restore_123 rfl (lv_at hl 0 rfl) ?_
          refine va_get (D := D) (ci := 5) (v := .ref (a 5)) (C := RX5) (T := TX5) (N := 19) hx hb hts hiRX5 hown hK hP 0 rfl rfl 5 (by decide) hf22 (fun _ h9 => h9) rfl dX5_restore_124 ?_
          refine lv_iload_n hx hb dX5_restore_127 rfl (lv_at hl 2 rfl) ?_
          refine lv_aload_n hx hb dX5_restore_128 rfl (lv_at hl 0 rfl) ?_
          refine va_get (D := D) (ci := 5) (v := .ref (a 12)) (C := RX5) (T := TX5) (N := 19) hx hb hts hiRX5 hown hK hP 0 rfl rfl 16 (by decide) hf44 (fun _ h9 => h9) rfl dX5_restore_129 ?_
          refine lv_bipush (v := 24) hx hb dX5_restore_132 (by decide) ?_
          refine lv_iload_n hx hb dX5_restore_134 rfl (lv_at hl 1 rfl) ?_
          refine lv_imul hx hb dX5_restore_135 ?_
          refine lv_iconst (v := 3) hx hb dX5_restore_136 (by decide) ?_
          refine lv_iload_n hx hb dX5_restore_137 rfl (lv_at hl 2 rfl) ?_
          refine lv_imul hx hb dX5_restore_138 ?_
          refine lv_iadd hx hb dX5_restore_139 ?_
          refine lv_iconst (v := 2) hx hb dX5_restore_140 (by decide) ?_
          refine lv_iadd hx hb dX5_restore_141 ?_
          obtain ⟨c39, hB16⟩ := gd_s hB16
          refine va_iald (D := D) hx hb hK hP 12 0 rfl rfl (ix_in c39) dX5_restore_142 ?_
          obtain ⟨c40, hB16⟩ := gd_s hB16
          refine va_iast (D := D) hx hb hK hP hD hS 5 0 rfl rfl (ix_in c40) dX5_restore_143 (fun H locs hP hD hS => ?_)
          have hP : va_P D vwCl (modelW k a ((z15.2).1, (z15.2).2.1, (z15.2).2.2.1, (upd ((z15.2).2.2.2.1) (z15.1 : Int32).toNatClampNeg (((z15.2).2.2.2.2.2.2.2.2.2.2.2.2.2.2.2.2.1) (((24 * y1) + (3 * z15.1)) : Int32).toNatClampNeg)), (upd ((z15.2).2.2.2.2.1) (z15.1 : Int32).toNatClampNeg (((z15.2).2.2.2.2.2.2.2.2.2.2.2.2.2.2.2.2.1) ((((24 * y1) + (3 * z15.1)) + 1) : Int32).toNatClampNeg)), (upd ((z15.2).2.2.2.2.2.1) (z15.1 : Int32).toNatClampNeg (((z15.2).2.2.2.2.2.2.2.2.2.2.2.2.2.2.2.2.1) ((((24 * y1) + (3 * z15.1)) + 2) : Int32).toNatClampNeg)), (z15.2).2.2.2.2.2.2)) H := hP
          have hD : va_D A0 (modelW k a ((z15.2).1, (z15.2).2.1, (z15.2).2.2.1, (upd ((z15.2).2.2.2.1) (z15.1 : Int32).toNatClampNeg (((z15.2).2.2.2.2.2.2.2.2.2.2.2.2.2.2.2.2.1) (((24 * y1) + (3 * z15.1)) : Int32).toNatClampNeg)), (upd ((z15.2).2.2.2.2.1) (z15.1 : Int32).toNatClampNeg (((z15.2).2.2.2.2.2.2.2.2.2.2.2.2.2.2.2.2.1) ((((24 * y1) + (3 * z15.1)) + 1) : Int32).toNatClampNeg)), (upd ((z15.2).2.2.2.2.2.1) (z15.1 : Int32).toNatClampNeg (((z15.2).2.2.2.2.2.2.2.2.2.2.2.2.2.2.2.2.1) ((((24 * y1) + (3 * z15.1)) + 2) : Int32).toNatClampNeg)), (z15.2).2.2.2.2.2.2)) := hD
          refine lv_iinc (v := (z15.1 + 1)) (lv' := [(2, .int (z15.1 + 1)), (0, .ref (a 0)), (1, .int y1)]) hx hb dX5_restore_144 hl (k := 2) rfl rfl (by decide) rfl (fun ls hl => ?_)
          refine lv_goto (tgt := 77) hx hb dX5_restore_147 (by decide) ?_
          exact kI18 _ (Option.some.inj hB16).symm ls H locs (lv_sub hl [1, 2, 0] rfl) hP hD hS
      refine lp_W (P := fun z8 => ∀ (ls : Array Slot) (H : Heap) (locs : List Loc), lv_has ls 3 [(0, .ref (a 0)), (1, .int y1), (2, .int z8.1)] → va_P D vwCl (modelW k a z8.2) H → va_D A0 (modelW k a z8.2) → va_S A0 s.heap H locs → W p l e rm_X5_restore s m args below meth c H locs 0 0 Q (F0 m 26 ls [])) (E := fun x6 => ∀ (ls : Array Slot) (H : Heap) (locs : List Loc), lv_has ls 3 [(0, .ref (a 0)), (1, .int y1)] → va_P D vwCl (modelW k a x6) H → va_D A0 (modelW k a x6) → va_S A0 s.heap H locs → W p l e rm_X5_restore s m args below meth c H locs 0 0 Q (F0 m 75 ls [])) (fun z8 xx10 hB9 kI11 kE12 => ?_) _ _ _ h7 K47 ls s.heap [] (lv_sub hl [1, 2, 0] rfl) hP hD hS
      intro ls H locs hl hP hD hS
      unfold f_X5_restore_L26 at hB9
      refine lv_iload_n hx hb dX5_restore_26 rfl (lv_at hl 2 rfl) ?_
      refine lv_bipush (v := 16) hx hb dX5_restore_27 (by decide) ?_
      refine lv_icmp_ge (tgt := 75) hx hb dX5_restore_29 (by decide) (fun c42 => ?_) (fun c42 => ?_)
      · have hB9 := if_t hB9 c42
        exact kE12 _ (Option.some.inj hB9).symm ls H locs (lv_sub hl [0, 1] rfl) hP hD hS
      · have hB9 := if_f hB9 c42
        refine lv_aload_n hx hb dX5_restore_32 rfl (lv_at hl 0 rfl) ?_
        refine va_get (D := D) (ci := 5) (v := .ref (a 1)) (C := RX5) (T := TX5) (N := 19) hx hb hts hiRX5 hown hK hP 0 rfl rfl 0 (by decide) hf7 (fun _ h9 => h9) rfl dX5_restore_33 ?_
        refine lv_iload_n hx hb dX5_restore_36 rfl (lv_at hl 2 rfl) ?_
        refine lv_aload_n hx hb dX5_restore_37 rfl (lv_at hl 0 rfl) ?_
        refine va_get (D := D) (ci := 5) (v := .ref (a 10)) (C := RX5) (T := TX5) (N := 19) hx hb hts hiRX5 hown hK hP 0 rfl rfl 14 (by decide) hf38 (fun _ h9 => h9) rfl dX5_restore_38 ?_
        refine lv_bipush (v := 32) hx hb dX5_restore_41 (by decide) ?_
        refine lv_iload_n hx hb dX5_restore_43 rfl (lv_at hl 1 rfl) ?_
        refine lv_imul hx hb dX5_restore_44 ?_
        refine lv_iload_n hx hb dX5_restore_45 rfl (lv_at hl 2 rfl) ?_
        refine lv_iadd hx hb dX5_restore_46 ?_
        obtain ⟨c43, hB9⟩ := gd_s hB9
        refine va_iald (D := D) hx hb hK hP 10 0 rfl rfl (ix_in c43) dX5_restore_47 ?_
        obtain ⟨c44, hB9⟩ := gd_s hB9
        refine va_iast (D := D) hx hb hK hP hD hS 1 0 rfl rfl (ix_in c44) dX5_restore_48 (fun H locs hP hD hS => ?_)
        have hP : va_P D vwCl (modelW k a ((upd ((z8.2).1) (z8.1 : Int32).toNatClampNeg (((z8.2).2.2.2.2.2.2.2.2.2.2.2.2.2.2.1) (((32 * y1) + z8.1) : Int32).toNatClampNeg)), (z8.2).2)) H := hP
        have hD : va_D A0 (modelW k a ((upd ((z8.2).1) (z8.1 : Int32).toNatClampNeg (((z8.2).2.2.2.2.2.2.2.2.2.2.2.2.2.2.1) (((32 * y1) + z8.1) : Int32).toNatClampNeg)), (z8.2).2)) := hD
        refine lv_aload_n hx hb dX5_restore_49 rfl (lv_at hl 0 rfl) ?_
        refine va_get (D := D) (ci := 5) (v := .ref (a 2)) (C := RX5) (T := TX5) (N := 19) hx hb hts hiRX5 hown hK hP 0 rfl rfl 1 (by decide) hf13 (fun _ h9 => h9) rfl dX5_restore_50 ?_
        refine lv_iload_n hx hb dX5_restore_53 rfl (lv_at hl 2 rfl) ?_
        refine lv_aload_n hx hb dX5_restore_54 rfl (lv_at hl 0 rfl) ?_
        refine va_get (D := D) (ci := 5) (v := .ref (a 10)) (C := RX5) (T := TX5) (N := 19) hx hb hts hiRX5 hown hK hP 0 rfl rfl 14 (by decide) hf38 (fun _ h9 => h9) rfl dX5_restore_55 ?_
        refine lv_bipush (v := 32) hx hb dX5_restore_58 (by decide) ?_
        refine lv_iload_n hx hb dX5_restore_60 rfl (lv_at hl 1 rfl) ?_
        refine lv_imul hx hb dX5_restore_61 ?_
        refine lv_bipush (v := 16) hx hb dX5_restore_62 (by decide) ?_
        refine lv_iadd hx hb dX5_restore_64 ?_
        refine lv_iload_n hx hb dX5_restore_65 rfl (lv_at hl 2 rfl) ?_
        refine lv_iadd hx hb dX5_restore_66 ?_
        obtain ⟨c45, hB9⟩ := gd_s hB9
        refine va_iald (D := D) hx hb hK hP 10 0 rfl rfl (ix_in c45) dX5_restore_67 ?_
        obtain ⟨c46, hB9⟩ := gd_s hB9
        refine va_iast (D := D) hx hb hK hP hD hS 2 0 rfl rfl (ix_in c46) dX5_restore_68 (fun H locs hP hD hS => ?_)
        have hP : va_P D vwCl (modelW k a ((upd ((z8.2).1) (z8.1 : Int32).toNatClampNeg (((z8.2).2.2.2.2.2.2.2.2.2.2.2.2.2.2.1) (((32 * y1) + z8.1) : Int32).toNatClampNeg)), (upd ((z8.2).2.1) (z8.1 : Int32).toNatClampNeg (((z8.2).2.2.2.2.2.2.2.2.2.2.2.2.2.2.1) ((((32 * y1) + 16) + z8.1) : Int32).toNatClampNeg)), (z8.2).2.2)) H := hP
        have hD : va_D A0 (modelW k a ((upd ((z8.2).1) (z8.1 : Int32).toNatClampNeg (((z8.2).2.2.2.2.2.2.2.2.2.2.2.2.2.2.1) (((32 * y1) + z8.1) : Int32).toNatClampNeg)), (upd ((z8.2).2.1) (z8.1 : Int32).toNatClampNeg (((z8.2).2.2.2.2.2.2.2.2.2.2.2.2.2.2.1) ((((32 * y1) + 16) + z8.1) : Int32).toNatClampNeg)), (z8.2).2.2)) := hD
        refine lv_iinc (v := (z8.1 + 1)) (lv' := [(2, .int (z8.1 + 1)), (0, .ref (a 0)), (1, .int y1)]) hx hb dX5_restore_69 hl (k := 2) rfl rfl (by decide) rfl (fun ls hl => ?_)
        refine lv_goto (tgt := 26) hx hb dX5_restore_72 (by decide) ?_
        exact kI11 _ (Option.some.inj hB9).symm ls H locs (lv_sub hl [1, 2, 0] rfl) hP hD hS
    · have h := if_t h c5
      refine lv_bipush (v := (-3)) hx hb dX5_restore_21 (by decide) ?_
      obtain rfl := Option.some.inj h
      exact hQ _ _ _ _ dX5_restore_23 hP hS
  · have h := if_t h c3
    refine lv_bipush (v := (-2)) hx hb dX5_restore_9 (by decide) ?_
    obtain rfl := Option.some.inj h
    exact hQ _ _ _ _ dX5_restore_11 hP hS

abbrev rm_X5_count : Room := { frames := 1, cells := 0, slots := 0, locals := 22 }
def f_X5_count (M : ModelV) (y1 : Int32) : Option (Int32) := if y1 = 0 then (some M.2.2.1) else (if y1 = 1 then ((f_X5_plots M).bind (fun x3 => some x3)) else (if y1 = 2 then (some M.2.2.2.2.2.2.2.2.2.1) else (if y1 = 3 then (some M.2.2.2.2.2.2.2.2.2.2.1) else (if y1 = 4 then (some M.2.2.2.2.2.2.2.2.2.2.2.1) else (if y1 = 5 then (some M.2.2.2.2.2.2.2.2.2.2.2.2.1) else (if y1 = 6 then (gd (ix 0 2) ((if (M.2.2.2.2.2.2.2.2.2.2.2.2.2.1 (0 : Int32).toNatClampNeg) = 0 then (some 0) else (some 1) : Option (Int32)).bind (fun x11 => gd (ix 1 2) ((if (M.2.2.2.2.2.2.2.2.2.2.2.2.2.1 (1 : Int32).toNatClampNeg) = 0 then (some 0) else (some 2) : Option (Int32)).bind (fun x15 => some (x11 + x15)))))) else ((f_X5_in y1 10 25).bind (fun x20 => if (b2i x20) = 0 then ((f_X5_in y1 30 45).bind (fun x23 => if (b2i x23) = 0 then (some (-2)) else (gd (ix (y1 - 30) 16) (gd (ix (y1 - 30) 16) (if (M.2.1 ((y1 - 30) : Int32).toNatClampNeg) < (M.1 ((y1 - 30) : Int32).toNatClampNeg) then (some (-6)) else (gd (ix (y1 - 30) 16) (some (M.2.1 ((y1 - 30) : Int32).toNatClampNeg)))))))) else (gd (ix (y1 - 10) 16) (gd (ix (y1 - 10) 16) (if (M.2.1 ((y1 - 10) : Int32).toNatClampNeg) < (M.1 ((y1 - 10) : Int32).toNatClampNeg) then (some (-6)) else (gd (ix (y1 - 10) 16) (some (M.1 ((y1 - 10) : Int32).toNatClampNeg))))))))))))))
set_option maxHeartbeats 4000000 in
set_option maxRecDepth 100000 in
theorem c_X5_count (l : Launch) (D : va_G) (k : Nat → ClassId) (a : Nat → Nat) (M : ModelV) (y1 : Int32) (r : Int32) (h : f_X5_count M y1 = some r) : Met l yX5_count wsX5_count rm_X5_count (va_Pc [.ref (a 0), .int y1] (RB D k (modelW k a M))) (QR (some (.int r))) 0 0 (fun _ => False) := by
  refine met_Ri (by decide) rfl (Nat.le_of_ble_eq_true rfl) ?_
  intro p e s m below meth c Q args ls hx hb hml hown hts hP hK hN hl hQ
  have hl : lv_has ls 2 [(0, .ref (a 0)), (1, .int y1)] := hl
  have hown : s.vm.findClass RX5 = some m.cls := hown
  unfold f_X5_count at h
  have hiRX5 : ∀ w ∈ u_ws RX5 TX5 19, w ∈ wsX5_count := by decide +kernel
  have hf53 := hts (.fieldLink RX5 53 "RainCellsModel" "many" "I") (by decide +kernel)
  have hf61 := hts (.fieldLink RX5 61 "RainCellsModel" "kept" "I") (by decide +kernel)
  have hf103 := hts (.fieldLink RX5 103 "RainCellsModel" "found" "I") (by decide +kernel)
  have hf106 := hts (.fieldLink RX5 106 "RainCellsModel" "worked" "I") (by decide +kernel)
  have hf109 := hts (.fieldLink RX5 109 "RainCellsModel" "gone" "I") (by decide +kernel)
  have hf35 := hts (.fieldLink RX5 35 "RainCellsModel" "isKept" "[Z") (by decide +kernel)
  have hf7 := hts (.fieldLink RX5 7 "RainCellsModel" "from" "[I") (by decide +kernel)
  have hf13 := hts (.fieldLink RX5 13 "RainCellsModel" "to" "[I") (by decide +kernel)
  refine lv_iload_n hx hb dX5_count_0 rfl (lv_at hl 1 rfl) ?_
  by_cases c1 : y1 = 0
  · have h := if_t h c1
    refine lv_tableIn (tgt := 44) hx hb dX5_count_1 (by rw [c1]; decide) (by rw [c1]; decide) (by rw [c1]; rfl) (by decide) ?_
    refine lv_aload_n hx hb dX5_count_44 rfl (lv_at hl 0 rfl) ?_
    refine va_get (D := D) (ci := 5) (v := .int M.2.2.1) (C := RX5) (T := TX5) (N := 19) hx hb hts hiRX5 hown hK hP 0 rfl rfl 2 (by decide) hf53 (fun _ h9 => h9) rfl dX5_count_45 ?_
    obtain rfl := Option.some.inj h
    exact hQ _ _ dX5_count_48
  have h := if_f h c1
  by_cases c2 : y1 = 1
  · have h := if_t h c2
    refine lv_tableIn (tgt := 49) hx hb dX5_count_1 (by rw [c2]; decide) (by rw [c2]; decide) (by rw [c2]; rfl) (by decide) ?_
    refine lv_aload_n hx hb dX5_count_49 rfl (lv_at hl 0 rfl) ?_
    obtain ⟨x3, h4, h⟩ := bd_s h
    refine cR_V (As := []) (rest := []) (n := 0) (v := .int x3) hx hb hml hown hts hK hN hl.1 (c_X5_plots l D k a M x3 h4) gX5_count_X5_plots rfl (by decide +kernel) ⟨⟨rfl, rfl⟩, by decide, by decide⟩ hP 0 5 rfl rfl rfl rfl rfl (Nat.le_of_ble_eq_true rfl) dX5_count_50 ⟨Nat.zero_le _, Nat.zero_le _⟩ ?_
    obtain rfl := Option.some.inj h
    exact hQ _ _ dX5_count_53
  have h := if_f h c2
  by_cases c5 : y1 = 2
  · have h := if_t h c5
    refine lv_tableIn (tgt := 54) hx hb dX5_count_1 (by rw [c5]; decide) (by rw [c5]; decide) (by rw [c5]; rfl) (by decide) ?_
    refine lv_aload_n hx hb dX5_count_54 rfl (lv_at hl 0 rfl) ?_
    refine va_get (D := D) (ci := 5) (v := .int M.2.2.2.2.2.2.2.2.2.1) (C := RX5) (T := TX5) (N := 19) hx hb hts hiRX5 hown hK hP 0 rfl rfl 9 (by decide) hf61 (fun _ h9 => h9) rfl dX5_count_55 ?_
    obtain rfl := Option.some.inj h
    exact hQ _ _ dX5_count_58
  have h := if_f h c5
  by_cases c6 : y1 = 3
  · have h := if_t h c6
    refine lv_tableIn (tgt := 59) hx hb dX5_count_1 (by rw [c6]; decide) (by rw [c6]; decide) (by rw [c6]; rfl) (by decide) ?_
    refine lv_aload_n hx hb dX5_count_59 rfl (lv_at hl 0 rfl) ?_
    refine va_get (D := D) (ci := 5) (v := .int M.2.2.2.2.2.2.2.2.2.2.1) (C := RX5) (T := TX5) (N := 19) hx hb hts hiRX5 hown hK hP 0 rfl rfl 10 (by decide) hf103 (fun _ h9 => h9) rfl dX5_count_60 ?_
    obtain rfl := Option.some.inj h
    exact hQ _ _ dX5_count_63
  have h := if_f h c6
  by_cases c7 : y1 = 4
  · have h := if_t h c7
    refine lv_tableIn (tgt := 64) hx hb dX5_count_1 (by rw [c7]; decide) (by rw [c7]; decide) (by rw [c7]; rfl) (by decide) ?_
    refine lv_aload_n hx hb dX5_count_64 rfl (lv_at hl 0 rfl) ?_
    refine va_get (D := D) (ci := 5) (v := .int M.2.2.2.2.2.2.2.2.2.2.2.1) (C := RX5) (T := TX5) (N := 19) hx hb hts hiRX5 hown hK hP 0 rfl rfl 11 (by decide) hf106 (fun _ h9 => h9) rfl dX5_count_65 ?_
    obtain rfl := Option.some.inj h
    exact hQ _ _ dX5_count_68
  have h := if_f h c7
  by_cases c8 : y1 = 5
  · have h := if_t h c8
    refine lv_tableIn (tgt := 69) hx hb dX5_count_1 (by rw [c8]; decide) (by rw [c8]; decide) (by rw [c8]; rfl) (by decide) ?_
    refine lv_aload_n hx hb dX5_count_69 rfl (lv_at hl 0 rfl) ?_
    refine va_get (D := D) (ci := 5) (v := .int M.2.2.2.2.2.2.2.2.2.2.2.2.1) (C := RX5) (T := TX5) (N := 19) hx hb hts hiRX5 hown hK hP 0 rfl rfl 12 (by decide) hf109 (fun _ h9 => h9) rfl dX5_count_70 ?_
    obtain rfl := Option.some.inj h
    exact hQ _ _ dX5_count_73
  have h := if_f h c8
  by_cases c9 : y1 = 6
  · have h := if_t h c9
    refine lv_tableIn (tgt := 74) hx hb dX5_count_1 (by rw [c9]; decide) (by rw [c9]; decide) (by rw [c9]; rfl) (by decide) ?_
    refine lv_aload_n hx hb dX5_count_74 rfl (lv_at hl 0 rfl) ?_
    refine va_get (D := D) (ci := 5) (v := .ref (a 9)) (C := RX5) (T := TX5) (N := 19) hx hb hts hiRX5 hown hK hP 0 rfl rfl 13 (by decide) hf35 (fun _ h9 => h9) rfl dX5_count_75 ?_
    refine lv_iconst (v := 0) hx hb dX5_count_78 (by decide) ?_
    obtain ⟨c10, h⟩ := gd_s h
    refine va_zald (D := D) hx hb hK hP 9 2 rfl rfl (ix_in c10) dX5_count_79 ?_
    obtain ⟨x11, h12, h⟩ := bd_s h
    have K13 : W p l e rm_X5_count s m args below meth c s.heap [] 0 0 Q (F0 m 88 ls [.int x11]) := by
      refine lv_aload_n hx hb dX5_count_88 rfl (lv_at hl 0 rfl) ?_
      refine va_get (D := D) (ci := 5) (v := .ref (a 9)) (C := RX5) (T := TX5) (N := 19) hx hb hts hiRX5 hown hK hP 0 rfl rfl 13 (by decide) hf35 (fun _ h9 => h9) rfl dX5_count_89 ?_
      refine lv_iconst (v := 1) hx hb dX5_count_92 (by decide) ?_
      obtain ⟨c14, h⟩ := gd_s h
      refine va_zald (D := D) hx hb hK hP 9 2 rfl rfl (ix_in c14) dX5_count_93 ?_
      obtain ⟨x15, h16, h⟩ := bd_s h
      have K17 : W p l e rm_X5_count s m args below meth c s.heap [] 0 0 Q (F0 m 102 ls [.int x15, .int x11]) := by
        refine lv_iadd hx hb dX5_count_102 ?_
        obtain rfl := Option.some.inj h
        exact hQ _ _ dX5_count_103
      refine lv_if_eq (tgt := 101) hx hb dX5_count_94 (by decide) (fun c18 => ?_) (fun c18 => ?_)
      · have h16 := if_t h16 c18
        refine lv_iconst (v := 0) hx hb dX5_count_101 (by decide) ?_
        obtain rfl := Option.some.inj h16
        exact K17
      · have h16 := if_f h16 c18
        refine lv_iconst (v := 2) hx hb dX5_count_97 (by decide) ?_
        refine lv_goto (tgt := 102) hx hb dX5_count_98 (by decide) ?_
        obtain rfl := Option.some.inj h16
        exact K17
    refine lv_if_eq (tgt := 87) hx hb dX5_count_80 (by decide) (fun c19 => ?_) (fun c19 => ?_)
    · have h12 := if_t h12 c19
      refine lv_iconst (v := 0) hx hb dX5_count_87 (by decide) ?_
      obtain rfl := Option.some.inj h12
      exact K13
    · have h12 := if_f h12 c19
      refine lv_iconst (v := 1) hx hb dX5_count_83 (by decide) ?_
      refine lv_goto (tgt := 88) hx hb dX5_count_84 (by decide) ?_
      obtain rfl := Option.some.inj h12
      exact K13
  have h := if_f h c9
  refine lv_tableOut (tgt := 104) hx hb dX5_count_1 (by have n0 := lv_neT c1 (k := 0) (a := 0) (by decide); have n1 := lv_neT c2 (k := 1) (a := 1) (by decide); have n2 := lv_neT c5 (k := 2) (a := 2) (by decide); have n3 := lv_neT c6 (k := 3) (a := 3) (by decide); have n4 := lv_neT c7 (k := 4) (a := 4) (by decide); have n5 := lv_neT c8 (k := 5) (a := 5) (by decide); have n6 := lv_neT c9 (k := 6) (a := 6) (by decide); omega) (by decide) ?_
  refine lv_iload_n hx hb dX5_count_104 rfl (lv_at hl 1 rfl) ?_
  refine lv_bipush (v := 10) hx hb dX5_count_105 (by decide) ?_
  refine lv_bipush (v := 25) hx hb dX5_count_107 (by decide) ?_
  obtain ⟨x20, h21, h⟩ := bd_s h
  refine cR_S (As := [.int y1, .int 10, .int 25]) (rest := []) (n := 3) (v := .int (b2i x20)) hx hb hml hown hts hK hN hl.1 (c_X5_in l D k y1 10 25 x20 h21) gX5_count_X5_in rfl (by decide +kernel) ⟨⟨rfl, rfl⟩, by decide, by decide⟩ va_P_nil rfl rfl (Nat.le_of_ble_eq_true rfl) dX5_count_109 ⟨Nat.zero_le _, Nat.zero_le _⟩ ?_
  refine lv_if_eq (tgt := 151) hx hb dX5_count_112 (by decide) (fun c22 => ?_) (fun c22 => ?_)
  · have h := if_t h c22
    refine lv_iload_n hx hb dX5_count_151 rfl (lv_at hl 1 rfl) ?_
    refine lv_bipush (v := 30) hx hb dX5_count_152 (by decide) ?_
    refine lv_bipush (v := 45) hx hb dX5_count_154 (by decide) ?_
    obtain ⟨x23, h24, h⟩ := bd_s h
    refine cR_S (As := [.int y1, .int 30, .int 45]) (rest := []) (n := 3) (v := .int (b2i x23)) hx hb hml hown hts hK hN hl.1 (c_X5_in l D k y1 30 45 x23 h24) gX5_count_X5_in rfl (by decide +kernel) ⟨⟨rfl, rfl⟩, by decide, by decide⟩ va_P_nil rfl rfl (Nat.le_of_ble_eq_true rfl) dX5_count_156 ⟨Nat.zero_le _, Nat.zero_le _⟩ ?_
    refine lv_if_eq (tgt := 198) hx hb dX5_count_159 (by decide) (fun c25 => ?_) (fun c25 => ?_)
    · have h := if_t h c25
      refine lv_bipush (v := (-2)) hx hb dX5_count_198 (by decide) ?_
      obtain rfl := Option.some.inj h
      exact hQ _ _ dX5_count_200
    · have h := if_f h c25
      refine lv_aload_n hx hb dX5_count_162 rfl (lv_at hl 0 rfl) ?_
      refine va_get (D := D) (ci := 5) (v := .ref (a 1)) (C := RX5) (T := TX5) (N := 19) hx hb hts hiRX5 hown hK hP 0 rfl rfl 0 (by decide) hf7 (fun _ h9 => h9) rfl dX5_count_163 ?_
      refine lv_iload_n hx hb dX5_count_166 rfl (lv_at hl 1 rfl) ?_
      refine lv_bipush (v := 30) hx hb dX5_count_167 (by decide) ?_
      refine lv_isub hx hb dX5_count_169 ?_
      obtain ⟨c26, h⟩ := gd_s h
      refine va_iald (D := D) hx hb hK hP 1 0 rfl rfl (ix_in c26) dX5_count_170 ?_
      refine lv_aload_n hx hb dX5_count_171 rfl (lv_at hl 0 rfl) ?_
      refine va_get (D := D) (ci := 5) (v := .ref (a 2)) (C := RX5) (T := TX5) (N := 19) hx hb hts hiRX5 hown hK hP 0 rfl rfl 1 (by decide) hf13 (fun _ h9 => h9) rfl dX5_count_172 ?_
      refine lv_iload_n hx hb dX5_count_175 rfl (lv_at hl 1 rfl) ?_
      refine lv_bipush (v := 30) hx hb dX5_count_176 (by decide) ?_
      refine lv_isub hx hb dX5_count_178 ?_
      obtain ⟨c27, h⟩ := gd_s h
      refine va_iald (D := D) hx hb hK hP 2 0 rfl rfl (ix_in c27) dX5_count_179 ?_
      refine lv_icmp_gt (tgt := 195) hx hb dX5_count_180 (by decide) (fun c28 => ?_) (fun c28 => ?_)
      · have h := if_t h c28
        refine lv_bipush (v := (-6)) hx hb dX5_count_195 (by decide) ?_
        obtain rfl := Option.some.inj h
        exact hQ _ _ dX5_count_197
      · have h := if_f h c28
        refine lv_aload_n hx hb dX5_count_183 rfl (lv_at hl 0 rfl) ?_
        refine va_get (D := D) (ci := 5) (v := .ref (a 2)) (C := RX5) (T := TX5) (N := 19) hx hb hts hiRX5 hown hK hP 0 rfl rfl 1 (by decide) hf13 (fun _ h9 => h9) rfl dX5_count_184 ?_
        refine lv_iload_n hx hb dX5_count_187 rfl (lv_at hl 1 rfl) ?_
        refine lv_bipush (v := 30) hx hb dX5_count_188 (by decide) ?_
        refine lv_isub hx hb dX5_count_190 ?_
        obtain ⟨c29, h⟩ := gd_s h
        refine va_iald (D := D) hx hb hK hP 2 0 rfl rfl (ix_in c29) dX5_count_191 ?_
        refine lv_goto (tgt := 197) hx hb dX5_count_192 (by decide) ?_
        obtain rfl := Option.some.inj h
        exact hQ _ _ dX5_count_197
  · have h := if_f h c22
    refine lv_aload_n hx hb dX5_count_115 rfl (lv_at hl 0 rfl) ?_
    refine va_get (D := D) (ci := 5) (v := .ref (a 1)) (C := RX5) (T := TX5) (N := 19) hx hb hts hiRX5 hown hK hP 0 rfl rfl 0 (by decide) hf7 (fun _ h9 => h9) rfl dX5_count_116 ?_
    refine lv_iload_n hx hb dX5_count_119 rfl (lv_at hl 1 rfl) ?_
    refine lv_bipush (v := 10) hx hb dX5_count_120 (by decide) ?_
    refine lv_isub hx hb dX5_count_122 ?_
    obtain ⟨c30, h⟩ := gd_s h
    refine va_iald (D := D) hx hb hK hP 1 0 rfl rfl (ix_in c30) dX5_count_123 ?_
    refine lv_aload_n hx hb dX5_count_124 rfl (lv_at hl 0 rfl) ?_
    refine va_get (D := D) (ci := 5) (v := .ref (a 2)) (C := RX5) (T := TX5) (N := 19) hx hb hts hiRX5 hown hK hP 0 rfl rfl 1 (by decide) hf13 (fun _ h9 => h9) rfl dX5_count_125 ?_
    refine lv_iload_n hx hb dX5_count_128 rfl (lv_at hl 1 rfl) ?_
    refine lv_bipush (v := 10) hx hb dX5_count_129 (by decide) ?_
    refine lv_isub hx hb dX5_count_131 ?_
    obtain ⟨c31, h⟩ := gd_s h
    refine va_iald (D := D) hx hb hK hP 2 0 rfl rfl (ix_in c31) dX5_count_132 ?_
    refine lv_icmp_gt (tgt := 148) hx hb dX5_count_133 (by decide) (fun c32 => ?_) (fun c32 => ?_)
    · have h := if_t h c32
      refine lv_bipush (v := (-6)) hx hb dX5_count_148 (by decide) ?_
      obtain rfl := Option.some.inj h
      exact hQ _ _ dX5_count_150
    · have h := if_f h c32
      refine lv_aload_n hx hb dX5_count_136 rfl (lv_at hl 0 rfl) ?_
      refine va_get (D := D) (ci := 5) (v := .ref (a 1)) (C := RX5) (T := TX5) (N := 19) hx hb hts hiRX5 hown hK hP 0 rfl rfl 0 (by decide) hf7 (fun _ h9 => h9) rfl dX5_count_137 ?_
      refine lv_iload_n hx hb dX5_count_140 rfl (lv_at hl 1 rfl) ?_
      refine lv_bipush (v := 10) hx hb dX5_count_141 (by decide) ?_
      refine lv_isub hx hb dX5_count_143 ?_
      obtain ⟨c33, h⟩ := gd_s h
      refine va_iald (D := D) hx hb hK hP 1 0 rfl rfl (ix_in c33) dX5_count_144 ?_
      refine lv_goto (tgt := 150) hx hb dX5_count_145 (by decide) ?_
      obtain rfl := Option.some.inj h
      exact hQ _ _ dX5_count_150
