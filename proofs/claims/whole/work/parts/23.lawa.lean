set_option maxHeartbeats 4000000 in
set_option maxRecDepth 100000 in
theorem law_0 {p : Program} {l : Launch} {e : Env} {s : State} {m : MethodId} {below : List Frame} {meth : Method} {c : Code} {Q : State → Prop} {b L : Nat} {xs : Nat → Int32} (C0 : lw_At p s m meth c b L xs) {D : va_G} {k : Nat → ClassId} {a b2 : Nat → Nat} (hK : va_K D vwCl (ty5 k) s) (hN : NN s) (y3 : Int32) (R : RcV) (M : ModelV) (x : RcV × ModelV) (h : f_law_0 xs L y3 R M = some x) (K : ∀ (ls : Array Slot) (H : Heap) (locs : List Loc), lv_has ls 4 [(0, .ref b), (1, .ref (a 0)), (2, .ref (b2 0)), (3, .int y3)] → va_P D vwCl (rcW k a x.1 ++ modelW k b2 x.2) H → va_D (fun q : Nat => s.heap.size ≤ q) (rcW k a x.1 ++ modelW k b2 x.2) → va_S (fun q : Nat => s.heap.size ≤ q) s.heap H locs → W p l e room_1 s m #[Value.ref b] below meth c H locs 81 8057 Q (F0 m 986 ls [])) : ∀ (ls : Array Slot) (H : Heap) (locs : List Loc), lv_has ls 4 [(0, .ref b), (1, .ref (a 0)), (2, .ref (b2 0)), (3, .int y3)] → va_P D vwCl (rcW k a R ++ modelW k b2 M) H → va_D (fun q : Nat => s.heap.size ≤ q) (rcW k a R ++ modelW k b2 M) → va_S (fun q : Nat => s.heap.size ≤ q) s.heap H locs → W p l e room_1 s m #[Value.ref b] below meth c H locs 81 8057 Q (F0 m 144 ls []) := by
  obtain ⟨hx, hb, hr, hml, hown, hts, hX, hbl, hlocks, hgv⟩ := C0
  have hts := fun w h => hts w (wsL_law_in w h)
  have hbA : ¬ (fun q : Nat => s.heap.size ≤ q) b := Nat.not_le.mpr hbl
  intro ls H locs hl hP hD hS
  unfold f_law_0 at h
  refine lv_aload_n hx hb dL_law_144 rfl (lv_at hl 1 rfl) ?_
  refine lv_aload_n hx hb dL_law_145 rfl (lv_at hl 0 rfl) ?_
  refine lv_iload_n hx hb dL_law_146 rfl (lv_at hl 3 rfl) ?_
  refine lv_iconst (v := 1) hx hb dL_law_147 (by decide) ?_
  refine lv_iadd hx hb dL_law_148 ?_
  obtain ⟨c1, h⟩ := gd_s h
  refine va_sld hx hb hX hbl hbA hS (ix_in c1) dL_law_149 ?_
  refine lv_aload_n hx hb dL_law_150 rfl (lv_at hl 0 rfl) ?_
  refine lv_iload_n hx hb dL_law_151 rfl (lv_at hl 3 rfl) ?_
  refine lv_iconst (v := 2) hx hb dL_law_152 (by decide) ?_
  refine lv_iadd hx hb dL_law_153 ?_
  obtain ⟨c2, h⟩ := gd_s h
  refine va_sld hx hb hX hbl hbA hS (ix_in c2) dL_law_154 ?_
  refine lv_aload_n hx hb dL_law_155 rfl (lv_at hl 0 rfl) ?_
  refine lv_iload_n hx hb dL_law_156 rfl (lv_at hl 3 rfl) ?_
  refine lv_iconst (v := 3) hx hb dL_law_157 (by decide) ?_
  refine lv_iadd hx hb dL_law_158 ?_
  obtain ⟨c3, h⟩ := gd_s h
  refine va_sld hx hb hX hbl hbA hS (ix_in c3) dL_law_159 ?_
  obtain ⟨x4, h5, h⟩ := bd_s h
  refine cM_V (As := [.int (xs ((y3 + 1) : Int32).toNatClampNeg), .int (xs ((y3 + 2) : Int32).toNatClampNeg), .int (xs ((y3 + 3) : Int32).toNatClampNeg)]) (rest := []) (n := 3) (ov := (some (.int x4.1))) (wc := rcW k a R) (wc' := rcW k a x4.2) (w1 := rcW k a x4.2 ++ (modelW k b2 M)) hx hb hml hown hts hK hN hl.1 hP hD hS (Sp.lft (rc_ad k a _) (rc_ad k a _)) (c_X4_row l D k a R (xs ((y3 + 1) : Int32).toNatClampNeg) (xs ((y3 + 2) : Int32).toNatClampNeg) (xs ((y3 + 3) : Int32).toNatClampNeg) x4 h5) gL_law_X4_row rfl (by decide +kernel) ⟨⟨rfl, rfl⟩, Nat.le_of_ble_eq_true rfl, Nat.le_of_ble_eq_true rfl⟩ 0 4 rfl rfl rfl rfl rfl (Nat.le_of_ble_eq_true rfl) dL_law_160 ⟨Nat.le_of_ble_eq_true rfl, Nat.le_of_ble_eq_true rfl⟩ (fun H locs hP hD hS => ?_)
  show W p l e room_1 s m #[Value.ref b] below meth c H locs 81 8057 Q (F0 m 163 ls [.int x4.1])
  refine lv_aload_n hx hb dL_law_163 rfl (lv_at hl 2 rfl) ?_
  refine lv_aload_n hx hb dL_law_164 rfl (lv_at hl 0 rfl) ?_
  refine lv_iload_n hx hb dL_law_165 rfl (lv_at hl 3 rfl) ?_
  refine lv_iconst (v := 1) hx hb dL_law_166 (by decide) ?_
  refine lv_iadd hx hb dL_law_167 ?_
  obtain ⟨c6, h⟩ := gd_s h
  refine va_sld hx hb hX hbl hbA hS (ix_in c6) dL_law_168 ?_
  refine lv_aload_n hx hb dL_law_169 rfl (lv_at hl 0 rfl) ?_
  refine lv_iload_n hx hb dL_law_170 rfl (lv_at hl 3 rfl) ?_
  refine lv_iconst (v := 2) hx hb dL_law_171 (by decide) ?_
  refine lv_iadd hx hb dL_law_172 ?_
  obtain ⟨c7, h⟩ := gd_s h
  refine va_sld hx hb hX hbl hbA hS (ix_in c7) dL_law_173 ?_
  refine lv_aload_n hx hb dL_law_174 rfl (lv_at hl 0 rfl) ?_
  refine lv_iload_n hx hb dL_law_175 rfl (lv_at hl 3 rfl) ?_
  refine lv_iconst (v := 3) hx hb dL_law_176 (by decide) ?_
  refine lv_iadd hx hb dL_law_177 ?_
  obtain ⟨c8, h⟩ := gd_s h
  refine va_sld hx hb hX hbl hbA hS (ix_in c8) dL_law_178 ?_
  obtain ⟨x9, h10, h⟩ := bd_s h
  refine cM_V (As := [.int (xs ((y3 + 1) : Int32).toNatClampNeg), .int (xs ((y3 + 2) : Int32).toNatClampNeg), .int (xs ((y3 + 3) : Int32).toNatClampNeg)]) (rest := [.int x4.1]) (n := 3) (ov := (some (.int x9.1))) (wc := modelW k b2 M) (wc' := modelW k b2 x9.2) (w1 := rcW k a x4.2 ++ (modelW k b2 x9.2)) hx hb hml hown hts hK hN hl.1 hP hD hS (Sp.rgt (md_ad k b2 _) (md_ad k b2 _)) (c_X5_row l D k b2 M (xs ((y3 + 1) : Int32).toNatClampNeg) (xs ((y3 + 2) : Int32).toNatClampNeg) (xs ((y3 + 3) : Int32).toNatClampNeg) x9 h10) gL_law_X5_row rfl (by decide +kernel) ⟨⟨rfl, rfl⟩, Nat.le_of_ble_eq_true rfl, Nat.le_of_ble_eq_true rfl⟩ 0 5 rfl rfl rfl rfl rfl (Nat.le_of_ble_eq_true rfl) dL_law_179 ⟨Nat.le_of_ble_eq_true rfl, Nat.le_of_ble_eq_true rfl⟩ (fun H locs hP hD hS => ?_)
  show W p l e room_1 s m #[Value.ref b] below meth c H locs 81 8057 Q (F0 m 182 ls [.int x9.1, .int x4.1])
  refine lv_icmp_eq (tgt := 986) hx hb dL_law_182 (by decide) (fun c11 => ?_) (fun c11 => ?_)
  · have h := if_t h c11
    obtain rfl := Option.some.inj h
    exact K ls H locs hl hP hD hS
  · have h := if_f h c11
    refine lv_iconst (v := 0) hx hb dL_law_185 (by decide) ?_
    cases h
set_option maxHeartbeats 4000000 in
set_option maxRecDepth 100000 in
theorem law_1 {p : Program} {l : Launch} {e : Env} {s : State} {m : MethodId} {below : List Frame} {meth : Method} {c : Code} {Q : State → Prop} {b L : Nat} {xs : Nat → Int32} (C0 : lw_At p s m meth c b L xs) {D : va_G} {k : Nat → ClassId} {a b2 : Nat → Nat} (hK : va_K D vwCl (ty5 k) s) (hN : NN s) (y3 : Int32) (R : RcV) (M : ModelV) (x : RcV × ModelV) (h : f_law_1 xs L y3 R M = some x) (K : ∀ (ls : Array Slot) (H : Heap) (locs : List Loc), lv_has ls 4 [(0, .ref b), (1, .ref (a 0)), (2, .ref (b2 0)), (3, .int y3)] → va_P D vwCl (rcW k a x.1 ++ modelW k b2 x.2) H → va_D (fun q : Nat => s.heap.size ≤ q) (rcW k a x.1 ++ modelW k b2 x.2) → va_S (fun q : Nat => s.heap.size ≤ q) s.heap H locs → W p l e room_1 s m #[Value.ref b] below meth c H locs 81 8057 Q (F0 m 986 ls [])) : ∀ (ls : Array Slot) (H : Heap) (locs : List Loc), lv_has ls 4 [(0, .ref b), (1, .ref (a 0)), (2, .ref (b2 0)), (3, .int y3)] → va_P D vwCl (rcW k a R ++ modelW k b2 M) H → va_D (fun q : Nat => s.heap.size ≤ q) (rcW k a R ++ modelW k b2 M) → va_S (fun q : Nat => s.heap.size ≤ q) s.heap H locs → W p l e room_1 s m #[Value.ref b] below meth c H locs 81 8057 Q (F0 m 187 ls []) := by
  obtain ⟨hx, hb, hr, hml, hown, hts, hX, hbl, hlocks, hgv⟩ := C0
  have hts := fun w h => hts w (wsL_law_in w h)
  have hbA : ¬ (fun q : Nat => s.heap.size ≤ q) b := Nat.not_le.mpr hbl
  intro ls H locs hl hP hD hS
  unfold f_law_1 at h
  refine lv_aload_n hx hb dL_law_187 rfl (lv_at hl 1 rfl) ?_
  refine lv_aload_n hx hb dL_law_188 rfl (lv_at hl 0 rfl) ?_
  refine lv_iload_n hx hb dL_law_189 rfl (lv_at hl 3 rfl) ?_
  refine lv_iconst (v := 1) hx hb dL_law_190 (by decide) ?_
  refine lv_iadd hx hb dL_law_191 ?_
  obtain ⟨c1, h⟩ := gd_s h
  refine va_sld hx hb hX hbl hbA hS (ix_in c1) dL_law_192 ?_
  refine lv_aload_n hx hb dL_law_193 rfl (lv_at hl 0 rfl) ?_
  refine lv_iload_n hx hb dL_law_194 rfl (lv_at hl 3 rfl) ?_
  refine lv_iconst (v := 2) hx hb dL_law_195 (by decide) ?_
  refine lv_iadd hx hb dL_law_196 ?_
  obtain ⟨c2, h⟩ := gd_s h
  refine va_sld hx hb hX hbl hbA hS (ix_in c2) dL_law_197 ?_
  obtain ⟨x3, h4, h⟩ := bd_s h
  refine cM_V (As := [.int (xs ((y3 + 1) : Int32).toNatClampNeg), .int (xs ((y3 + 2) : Int32).toNatClampNeg)]) (rest := []) (n := 2) (ov := (some (.int x3.1))) (wc := rcW k a R) (wc' := rcW k a x3.2) (w1 := rcW k a x3.2 ++ (modelW k b2 M)) hx hb hml hown hts hK hN hl.1 hP hD hS (Sp.lft (rc_ad k a _) (rc_ad k a _)) (c_X4_gauge l D k a R (xs ((y3 + 1) : Int32).toNatClampNeg) (xs ((y3 + 2) : Int32).toNatClampNeg) x3 h4) gL_law_X4_gauge rfl (by decide +kernel) ⟨⟨rfl, rfl⟩, Nat.le_of_ble_eq_true rfl, Nat.le_of_ble_eq_true rfl⟩ 0 4 rfl rfl rfl rfl rfl (Nat.le_of_ble_eq_true rfl) dL_law_198 ⟨Nat.le_of_ble_eq_true rfl, Nat.le_of_ble_eq_true rfl⟩ (fun H locs hP hD hS => ?_)
  show W p l e room_1 s m #[Value.ref b] below meth c H locs 81 8057 Q (F0 m 201 ls [.int x3.1])
  refine lv_aload_n hx hb dL_law_201 rfl (lv_at hl 2 rfl) ?_
  refine lv_aload_n hx hb dL_law_202 rfl (lv_at hl 0 rfl) ?_
  refine lv_iload_n hx hb dL_law_203 rfl (lv_at hl 3 rfl) ?_
  refine lv_iconst (v := 1) hx hb dL_law_204 (by decide) ?_
  refine lv_iadd hx hb dL_law_205 ?_
  obtain ⟨c5, h⟩ := gd_s h
  refine va_sld hx hb hX hbl hbA hS (ix_in c5) dL_law_206 ?_
  refine lv_aload_n hx hb dL_law_207 rfl (lv_at hl 0 rfl) ?_
  refine lv_iload_n hx hb dL_law_208 rfl (lv_at hl 3 rfl) ?_
  refine lv_iconst (v := 2) hx hb dL_law_209 (by decide) ?_
  refine lv_iadd hx hb dL_law_210 ?_
  obtain ⟨c6, h⟩ := gd_s h
  refine va_sld hx hb hX hbl hbA hS (ix_in c6) dL_law_211 ?_
  obtain ⟨x7, h8, h⟩ := bd_s h
  refine cM_V (As := [.int (xs ((y3 + 1) : Int32).toNatClampNeg), .int (xs ((y3 + 2) : Int32).toNatClampNeg)]) (rest := [.int x3.1]) (n := 2) (ov := (some (.int x7.1))) (wc := modelW k b2 M) (wc' := modelW k b2 x7.2) (w1 := rcW k a x3.2 ++ (modelW k b2 x7.2)) hx hb hml hown hts hK hN hl.1 hP hD hS (Sp.rgt (md_ad k b2 _) (md_ad k b2 _)) (c_X5_gauge l D k b2 M (xs ((y3 + 1) : Int32).toNatClampNeg) (xs ((y3 + 2) : Int32).toNatClampNeg) x7 h8) gL_law_X5_gauge rfl (by decide +kernel) ⟨⟨rfl, rfl⟩, Nat.le_of_ble_eq_true rfl, Nat.le_of_ble_eq_true rfl⟩ 0 5 rfl rfl rfl rfl rfl (Nat.le_of_ble_eq_true rfl) dL_law_212 ⟨Nat.le_of_ble_eq_true rfl, Nat.le_of_ble_eq_true rfl⟩ (fun H locs hP hD hS => ?_)
  show W p l e room_1 s m #[Value.ref b] below meth c H locs 81 8057 Q (F0 m 215 ls [.int x7.1, .int x3.1])
  refine lv_icmp_eq (tgt := 986) hx hb dL_law_215 (by decide) (fun c9 => ?_) (fun c9 => ?_)
  · have h := if_t h c9
    obtain rfl := Option.some.inj h
    exact K ls H locs hl hP hD hS
  · have h := if_f h c9
    refine lv_iconst (v := 0) hx hb dL_law_218 (by decide) ?_
    cases h
set_option maxHeartbeats 4000000 in
set_option maxRecDepth 100000 in
theorem law_2 {p : Program} {l : Launch} {e : Env} {s : State} {m : MethodId} {below : List Frame} {meth : Method} {c : Code} {Q : State → Prop} {b L : Nat} {xs : Nat → Int32} (C0 : lw_At p s m meth c b L xs) {D : va_G} {k : Nat → ClassId} {a b2 : Nat → Nat} (hK : va_K D vwCl (ty5 k) s) (hN : NN s) (y3 : Int32) (R : RcV) (M : ModelV) (x : RcV × ModelV) (h : f_law_2 xs L y3 R M = some x) (K : ∀ (ls : Array Slot) (H : Heap) (locs : List Loc), lv_has ls 4 [(0, .ref b), (1, .ref (a 0)), (2, .ref (b2 0)), (3, .int y3)] → va_P D vwCl (rcW k a x.1 ++ modelW k b2 x.2) H → va_D (fun q : Nat => s.heap.size ≤ q) (rcW k a x.1 ++ modelW k b2 x.2) → va_S (fun q : Nat => s.heap.size ≤ q) s.heap H locs → W p l e room_1 s m #[Value.ref b] below meth c H locs 81 8057 Q (F0 m 986 ls [])) : ∀ (ls : Array Slot) (H : Heap) (locs : List Loc), lv_has ls 4 [(0, .ref b), (1, .ref (a 0)), (2, .ref (b2 0)), (3, .int y3)] → va_P D vwCl (rcW k a R ++ modelW k b2 M) H → va_D (fun q : Nat => s.heap.size ≤ q) (rcW k a R ++ modelW k b2 M) → va_S (fun q : Nat => s.heap.size ≤ q) s.heap H locs → W p l e room_1 s m #[Value.ref b] below meth c H locs 81 8057 Q (F0 m 220 ls []) := by
  obtain ⟨hx, hb, hr, hml, hown, hts, hX, hbl, hlocks, hgv⟩ := C0
  have hts := fun w h => hts w (wsL_law_in w h)
  have hbA : ¬ (fun q : Nat => s.heap.size ≤ q) b := Nat.not_le.mpr hbl
  intro ls H locs hl hP hD hS
  unfold f_law_2 at h
  refine lv_aload_n hx hb dL_law_220 rfl (lv_at hl 1 rfl) ?_
  refine lv_aload_n hx hb dL_law_221 rfl (lv_at hl 0 rfl) ?_
  refine lv_iload_n hx hb dL_law_222 rfl (lv_at hl 3 rfl) ?_
  refine lv_iconst (v := 1) hx hb dL_law_223 (by decide) ?_
  refine lv_iadd hx hb dL_law_224 ?_
  obtain ⟨c1, h⟩ := gd_s h
  refine va_sld hx hb hX hbl hbA hS (ix_in c1) dL_law_225 ?_
  refine lv_aload_n hx hb dL_law_226 rfl (lv_at hl 0 rfl) ?_
  refine lv_iload_n hx hb dL_law_227 rfl (lv_at hl 3 rfl) ?_
  refine lv_iconst (v := 2) hx hb dL_law_228 (by decide) ?_
  refine lv_iadd hx hb dL_law_229 ?_
  obtain ⟨c2, h⟩ := gd_s h
  refine va_sld hx hb hX hbl hbA hS (ix_in c2) dL_law_230 ?_
  refine lv_aload_n hx hb dL_law_231 rfl (lv_at hl 0 rfl) ?_
  refine lv_iload_n hx hb dL_law_232 rfl (lv_at hl 3 rfl) ?_
  refine lv_iconst (v := 3) hx hb dL_law_233 (by decide) ?_
  refine lv_iadd hx hb dL_law_234 ?_
  obtain ⟨c3, h⟩ := gd_s h
  refine va_sld hx hb hX hbl hbA hS (ix_in c3) dL_law_235 ?_
  obtain ⟨x4, h5, h⟩ := bd_s h
  refine cM_V (As := [.int (xs ((y3 + 1) : Int32).toNatClampNeg), .int (xs ((y3 + 2) : Int32).toNatClampNeg), .int (xs ((y3 + 3) : Int32).toNatClampNeg)]) (rest := []) (n := 3) (ov := (some (.int x4.1))) (wc := rcW k a R) (wc' := rcW k a x4.2) (w1 := rcW k a x4.2 ++ (modelW k b2 M)) hx hb hml hown hts hK hN hl.1 hP hD hS (Sp.lft (rc_ad k a _) (rc_ad k a _)) (c_X4_move l D k a R (xs ((y3 + 1) : Int32).toNatClampNeg) (xs ((y3 + 2) : Int32).toNatClampNeg) (xs ((y3 + 3) : Int32).toNatClampNeg) x4 h5) gL_law_X4_move rfl (by decide +kernel) ⟨⟨rfl, rfl⟩, Nat.le_of_ble_eq_true rfl, Nat.le_of_ble_eq_true rfl⟩ 0 4 rfl rfl rfl rfl rfl (Nat.le_of_ble_eq_true rfl) dL_law_236 ⟨Nat.le_of_ble_eq_true rfl, Nat.le_of_ble_eq_true rfl⟩ (fun H locs hP hD hS => ?_)
  show W p l e room_1 s m #[Value.ref b] below meth c H locs 81 8057 Q (F0 m 239 ls [.int x4.1])
  refine lv_aload_n hx hb dL_law_239 rfl (lv_at hl 2 rfl) ?_
  refine lv_aload_n hx hb dL_law_240 rfl (lv_at hl 0 rfl) ?_
  refine lv_iload_n hx hb dL_law_241 rfl (lv_at hl 3 rfl) ?_
  refine lv_iconst (v := 1) hx hb dL_law_242 (by decide) ?_
  refine lv_iadd hx hb dL_law_243 ?_
  obtain ⟨c6, h⟩ := gd_s h
  refine va_sld hx hb hX hbl hbA hS (ix_in c6) dL_law_244 ?_
  refine lv_aload_n hx hb dL_law_245 rfl (lv_at hl 0 rfl) ?_
  refine lv_iload_n hx hb dL_law_246 rfl (lv_at hl 3 rfl) ?_
  refine lv_iconst (v := 2) hx hb dL_law_247 (by decide) ?_
  refine lv_iadd hx hb dL_law_248 ?_
  obtain ⟨c7, h⟩ := gd_s h
  refine va_sld hx hb hX hbl hbA hS (ix_in c7) dL_law_249 ?_
  refine lv_aload_n hx hb dL_law_250 rfl (lv_at hl 0 rfl) ?_
  refine lv_iload_n hx hb dL_law_251 rfl (lv_at hl 3 rfl) ?_
  refine lv_iconst (v := 3) hx hb dL_law_252 (by decide) ?_
  refine lv_iadd hx hb dL_law_253 ?_
  obtain ⟨c8, h⟩ := gd_s h
  refine va_sld hx hb hX hbl hbA hS (ix_in c8) dL_law_254 ?_
  obtain ⟨x9, h10, h⟩ := bd_s h
  refine cM_V (As := [.int (xs ((y3 + 1) : Int32).toNatClampNeg), .int (xs ((y3 + 2) : Int32).toNatClampNeg), .int (xs ((y3 + 3) : Int32).toNatClampNeg)]) (rest := [.int x4.1]) (n := 3) (ov := (some (.int x9.1))) (wc := modelW k b2 M) (wc' := modelW k b2 x9.2) (w1 := rcW k a x4.2 ++ (modelW k b2 x9.2)) hx hb hml hown hts hK hN hl.1 hP hD hS (Sp.rgt (md_ad k b2 _) (md_ad k b2 _)) (c_X5_move l D k b2 M (xs ((y3 + 1) : Int32).toNatClampNeg) (xs ((y3 + 2) : Int32).toNatClampNeg) (xs ((y3 + 3) : Int32).toNatClampNeg) x9 h10) gL_law_X5_move rfl (by decide +kernel) ⟨⟨rfl, rfl⟩, Nat.le_of_ble_eq_true rfl, Nat.le_of_ble_eq_true rfl⟩ 0 5 rfl rfl rfl rfl rfl (Nat.le_of_ble_eq_true rfl) dL_law_255 ⟨Nat.le_of_ble_eq_true rfl, Nat.le_of_ble_eq_true rfl⟩ (fun H locs hP hD hS => ?_)
  show W p l e room_1 s m #[Value.ref b] below meth c H locs 81 8057 Q (F0 m 258 ls [.int x9.1, .int x4.1])
  refine lv_icmp_eq (tgt := 986) hx hb dL_law_258 (by decide) (fun c11 => ?_) (fun c11 => ?_)
  · have h := if_t h c11
    obtain rfl := Option.some.inj h
    exact K ls H locs hl hP hD hS
  · have h := if_f h c11
    refine lv_iconst (v := 0) hx hb dL_law_261 (by decide) ?_
    cases h
set_option maxHeartbeats 4000000 in
set_option maxRecDepth 100000 in
theorem law_3 {p : Program} {l : Launch} {e : Env} {s : State} {m : MethodId} {below : List Frame} {meth : Method} {c : Code} {Q : State → Prop} {b L : Nat} {xs : Nat → Int32} (C0 : lw_At p s m meth c b L xs) {D : va_G} {k : Nat → ClassId} {a b2 : Nat → Nat} (hK : va_K D vwCl (ty5 k) s) (hN : NN s) (y3 : Int32) (R : RcV) (M : ModelV) (x : RcV × ModelV) (h : f_law_3 xs L y3 R M = some x) (K : ∀ (ls : Array Slot) (H : Heap) (locs : List Loc), lv_has ls 4 [(0, .ref b), (1, .ref (a 0)), (2, .ref (b2 0)), (3, .int y3)] → va_P D vwCl (rcW k a x.1 ++ modelW k b2 x.2) H → va_D (fun q : Nat => s.heap.size ≤ q) (rcW k a x.1 ++ modelW k b2 x.2) → va_S (fun q : Nat => s.heap.size ≤ q) s.heap H locs → W p l e room_1 s m #[Value.ref b] below meth c H locs 81 8057 Q (F0 m 986 ls [])) : ∀ (ls : Array Slot) (H : Heap) (locs : List Loc), lv_has ls 4 [(0, .ref b), (1, .ref (a 0)), (2, .ref (b2 0)), (3, .int y3)] → va_P D vwCl (rcW k a R ++ modelW k b2 M) H → va_D (fun q : Nat => s.heap.size ≤ q) (rcW k a R ++ modelW k b2 M) → va_S (fun q : Nat => s.heap.size ≤ q) s.heap H locs → W p l e room_1 s m #[Value.ref b] below meth c H locs 81 8057 Q (F0 m 263 ls []) := by
  obtain ⟨hx, hb, hr, hml, hown, hts, hX, hbl, hlocks, hgv⟩ := C0
  have hts := fun w h => hts w (wsL_law_in w h)
  have hbA : ¬ (fun q : Nat => s.heap.size ≤ q) b := Nat.not_le.mpr hbl
  intro ls H locs hl hP hD hS
  unfold f_law_3 at h
  refine lv_aload_n hx hb dL_law_263 rfl (lv_at hl 1 rfl) ?_
  refine lv_aload_n hx hb dL_law_264 rfl (lv_at hl 0 rfl) ?_
  refine lv_iload_n hx hb dL_law_265 rfl (lv_at hl 3 rfl) ?_
  refine lv_iconst (v := 1) hx hb dL_law_266 (by decide) ?_
  refine lv_iadd hx hb dL_law_267 ?_
  obtain ⟨c1, h⟩ := gd_s h
  refine va_sld hx hb hX hbl hbA hS (ix_in c1) dL_law_268 ?_
  refine lv_aload_n hx hb dL_law_269 rfl (lv_at hl 0 rfl) ?_
  refine lv_iload_n hx hb dL_law_270 rfl (lv_at hl 3 rfl) ?_
  refine lv_iconst (v := 2) hx hb dL_law_271 (by decide) ?_
  refine lv_iadd hx hb dL_law_272 ?_
  obtain ⟨c2, h⟩ := gd_s h
  refine va_sld hx hb hX hbl hbA hS (ix_in c2) dL_law_273 ?_
  obtain ⟨x3, h4, h⟩ := bd_s h
  refine cM_V (As := [.int (xs ((y3 + 1) : Int32).toNatClampNeg), .int (xs ((y3 + 2) : Int32).toNatClampNeg)]) (rest := []) (n := 2) (ov := (some (.int x3.1))) (wc := rcW k a R) (wc' := rcW k a x3.2) (w1 := rcW k a x3.2 ++ (modelW k b2 M)) hx hb hml hown hts hK hN hl.1 hP hD hS (Sp.lft (rc_ad k a _) (rc_ad k a _)) (c_X4_reach l D k a R (xs ((y3 + 1) : Int32).toNatClampNeg) (xs ((y3 + 2) : Int32).toNatClampNeg) x3 h4) gL_law_X4_reach rfl (by decide +kernel) ⟨⟨rfl, rfl⟩, Nat.le_of_ble_eq_true rfl, Nat.le_of_ble_eq_true rfl⟩ 0 4 rfl rfl rfl rfl rfl (Nat.le_of_ble_eq_true rfl) dL_law_274 ⟨Nat.le_of_ble_eq_true rfl, Nat.le_of_ble_eq_true rfl⟩ (fun H locs hP hD hS => ?_)
  show W p l e room_1 s m #[Value.ref b] below meth c H locs 81 8057 Q (F0 m 277 ls [.int x3.1])
  refine lv_aload_n hx hb dL_law_277 rfl (lv_at hl 2 rfl) ?_
  refine lv_aload_n hx hb dL_law_278 rfl (lv_at hl 0 rfl) ?_
  refine lv_iload_n hx hb dL_law_279 rfl (lv_at hl 3 rfl) ?_
  refine lv_iconst (v := 1) hx hb dL_law_280 (by decide) ?_
  refine lv_iadd hx hb dL_law_281 ?_
  obtain ⟨c5, h⟩ := gd_s h
  refine va_sld hx hb hX hbl hbA hS (ix_in c5) dL_law_282 ?_
  refine lv_aload_n hx hb dL_law_283 rfl (lv_at hl 0 rfl) ?_
  refine lv_iload_n hx hb dL_law_284 rfl (lv_at hl 3 rfl) ?_
  refine lv_iconst (v := 2) hx hb dL_law_285 (by decide) ?_
  refine lv_iadd hx hb dL_law_286 ?_
  obtain ⟨c6, h⟩ := gd_s h
  refine va_sld hx hb hX hbl hbA hS (ix_in c6) dL_law_287 ?_
  obtain ⟨x7, h8, h⟩ := bd_s h
  refine cM_V (As := [.int (xs ((y3 + 1) : Int32).toNatClampNeg), .int (xs ((y3 + 2) : Int32).toNatClampNeg)]) (rest := [.int x3.1]) (n := 2) (ov := (some (.int x7.1))) (wc := modelW k b2 M) (wc' := modelW k b2 x7.2) (w1 := rcW k a x3.2 ++ (modelW k b2 x7.2)) hx hb hml hown hts hK hN hl.1 hP hD hS (Sp.rgt (md_ad k b2 _) (md_ad k b2 _)) (c_X5_reach l D k b2 M (xs ((y3 + 1) : Int32).toNatClampNeg) (xs ((y3 + 2) : Int32).toNatClampNeg) x7 h8) gL_law_X5_reach rfl (by decide +kernel) ⟨⟨rfl, rfl⟩, Nat.le_of_ble_eq_true rfl, Nat.le_of_ble_eq_true rfl⟩ 0 5 rfl rfl rfl rfl rfl (Nat.le_of_ble_eq_true rfl) dL_law_288 ⟨Nat.le_of_ble_eq_true rfl, Nat.le_of_ble_eq_true rfl⟩ (fun H locs hP hD hS => ?_)
  show W p l e room_1 s m #[Value.ref b] below meth c H locs 81 8057 Q (F0 m 291 ls [.int x7.1, .int x3.1])
  refine lv_icmp_eq (tgt := 986) hx hb dL_law_291 (by decide) (fun c9 => ?_) (fun c9 => ?_)
  · have h := if_t h c9
    obtain rfl := Option.some.inj h
    exact K ls H locs hl hP hD hS
  · have h := if_f h c9
    refine lv_iconst (v := 0) hx hb dL_law_294 (by decide) ?_
    cases h
set_option maxHeartbeats 4000000 in
set_option maxRecDepth 100000 in
theorem law_4 {p : Program} {l : Launch} {e : Env} {s : State} {m : MethodId} {below : List Frame} {meth : Method} {c : Code} {Q : State → Prop} {b L : Nat} {xs : Nat → Int32} (C0 : lw_At p s m meth c b L xs) {D : va_G} {k : Nat → ClassId} {a b2 : Nat → Nat} (hK : va_K D vwCl (ty5 k) s) (hN : NN s) (y3 : Int32) (R : RcV) (M : ModelV) (x : RcV × ModelV) (h : f_law_4 xs L y3 R M = some x) (K : ∀ (ls : Array Slot) (H : Heap) (locs : List Loc), lv_has ls 4 [(0, .ref b), (1, .ref (a 0)), (2, .ref (b2 0)), (3, .int y3)] → va_P D vwCl (rcW k a x.1 ++ modelW k b2 x.2) H → va_D (fun q : Nat => s.heap.size ≤ q) (rcW k a x.1 ++ modelW k b2 x.2) → va_S (fun q : Nat => s.heap.size ≤ q) s.heap H locs → W p l e room_1 s m #[Value.ref b] below meth c H locs 81 8057 Q (F0 m 986 ls [])) : ∀ (ls : Array Slot) (H : Heap) (locs : List Loc), lv_has ls 4 [(0, .ref b), (1, .ref (a 0)), (2, .ref (b2 0)), (3, .int y3)] → va_P D vwCl (rcW k a R ++ modelW k b2 M) H → va_D (fun q : Nat => s.heap.size ≤ q) (rcW k a R ++ modelW k b2 M) → va_S (fun q : Nat => s.heap.size ≤ q) s.heap H locs → W p l e room_1 s m #[Value.ref b] below meth c H locs 81 8057 Q (F0 m 296 ls []) := by
  obtain ⟨hx, hb, hr, hml, hown, hts, hX, hbl, hlocks, hgv⟩ := C0
  have hts := fun w h => hts w (wsL_law_in w h)
  have hbA : ¬ (fun q : Nat => s.heap.size ≤ q) b := Nat.not_le.mpr hbl
  intro ls H locs hl hP hD hS
  unfold f_law_4 at h
  refine lv_aload_n hx hb dL_law_296 rfl (lv_at hl 1 rfl) ?_
  refine lv_aload_n hx hb dL_law_297 rfl (lv_at hl 0 rfl) ?_
  refine lv_iload_n hx hb dL_law_298 rfl (lv_at hl 3 rfl) ?_
  refine lv_iconst (v := 1) hx hb dL_law_299 (by decide) ?_
  refine lv_iadd hx hb dL_law_300 ?_
  obtain ⟨c1, h⟩ := gd_s h
  refine va_sld hx hb hX hbl hbA hS (ix_in c1) dL_law_301 ?_
  refine lv_aload_n hx hb dL_law_302 rfl (lv_at hl 0 rfl) ?_
  refine lv_iload_n hx hb dL_law_303 rfl (lv_at hl 3 rfl) ?_
  refine lv_iconst (v := 2) hx hb dL_law_304 (by decide) ?_
  refine lv_iadd hx hb dL_law_305 ?_
  obtain ⟨c2, h⟩ := gd_s h
  refine va_sld hx hb hX hbl hbA hS (ix_in c2) dL_law_306 ?_
  refine lv_aload_n hx hb dL_law_307 rfl (lv_at hl 0 rfl) ?_
  refine lv_iload_n hx hb dL_law_308 rfl (lv_at hl 3 rfl) ?_
  refine lv_iconst (v := 3) hx hb dL_law_309 (by decide) ?_
  refine lv_iadd hx hb dL_law_310 ?_
  obtain ⟨c3, h⟩ := gd_s h
  refine va_sld hx hb hX hbl hbA hS (ix_in c3) dL_law_311 ?_
  refine lv_aload_n hx hb dL_law_312 rfl (lv_at hl 0 rfl) ?_
  refine lv_iload_n hx hb dL_law_313 rfl (lv_at hl 3 rfl) ?_
  refine lv_iconst (v := 4) hx hb dL_law_314 (by decide) ?_
  refine lv_iadd hx hb dL_law_315 ?_
  obtain ⟨c4, h⟩ := gd_s h
  refine va_sld hx hb hX hbl hbA hS (ix_in c4) dL_law_316 ?_
  obtain ⟨x5, h6, h⟩ := bd_s h
  refine cM_V (As := [.int (xs ((y3 + 1) : Int32).toNatClampNeg), .int (xs ((y3 + 2) : Int32).toNatClampNeg), .int (xs ((y3 + 3) : Int32).toNatClampNeg), .int (xs ((y3 + 4) : Int32).toNatClampNeg)]) (rest := []) (n := 4) (ov := (some (.int x5.1))) (wc := rcW k a R) (wc' := rcW k a x5.2) (w1 := rcW k a x5.2 ++ (modelW k b2 M)) hx hb hml hown hts hK hN hl.1 hP hD hS (Sp.lft (rc_ad k a _) (rc_ad k a _)) (c_X4_fail l D k a R (xs ((y3 + 1) : Int32).toNatClampNeg) (xs ((y3 + 2) : Int32).toNatClampNeg) (xs ((y3 + 3) : Int32).toNatClampNeg) (xs ((y3 + 4) : Int32).toNatClampNeg) x5 h6) gL_law_X4_fail rfl (by decide +kernel) ⟨⟨rfl, rfl⟩, Nat.le_of_ble_eq_true rfl, Nat.le_of_ble_eq_true rfl⟩ 0 4 rfl rfl rfl rfl rfl (Nat.le_of_ble_eq_true rfl) dL_law_317 ⟨Nat.le_of_ble_eq_true rfl, Nat.le_of_ble_eq_true rfl⟩ (fun H locs hP hD hS => ?_)
  show W p l e room_1 s m #[Value.ref b] below meth c H locs 81 8057 Q (F0 m 320 ls [.int x5.1])
  refine lv_aload_n hx hb dL_law_320 rfl (lv_at hl 2 rfl) ?_
  refine lv_aload_n hx hb dL_law_321 rfl (lv_at hl 0 rfl) ?_
  refine lv_iload_n hx hb dL_law_322 rfl (lv_at hl 3 rfl) ?_
  refine lv_iconst (v := 1) hx hb dL_law_323 (by decide) ?_
  refine lv_iadd hx hb dL_law_324 ?_
  obtain ⟨c7, h⟩ := gd_s h
  refine va_sld hx hb hX hbl hbA hS (ix_in c7) dL_law_325 ?_
  refine lv_aload_n hx hb dL_law_326 rfl (lv_at hl 0 rfl) ?_
  refine lv_iload_n hx hb dL_law_327 rfl (lv_at hl 3 rfl) ?_
  refine lv_iconst (v := 2) hx hb dL_law_328 (by decide) ?_
  refine lv_iadd hx hb dL_law_329 ?_
  obtain ⟨c8, h⟩ := gd_s h
  refine va_sld hx hb hX hbl hbA hS (ix_in c8) dL_law_330 ?_
  refine lv_aload_n hx hb dL_law_331 rfl (lv_at hl 0 rfl) ?_
  refine lv_iload_n hx hb dL_law_332 rfl (lv_at hl 3 rfl) ?_
  refine lv_iconst (v := 3) hx hb dL_law_333 (by decide) ?_
  refine lv_iadd hx hb dL_law_334 ?_
  obtain ⟨c9, h⟩ := gd_s h
  refine va_sld hx hb hX hbl hbA hS (ix_in c9) dL_law_335 ?_
  refine lv_aload_n hx hb dL_law_336 rfl (lv_at hl 0 rfl) ?_
  refine lv_iload_n hx hb dL_law_337 rfl (lv_at hl 3 rfl) ?_
  refine lv_iconst (v := 4) hx hb dL_law_338 (by decide) ?_
  refine lv_iadd hx hb dL_law_339 ?_
  obtain ⟨c10, h⟩ := gd_s h
  refine va_sld hx hb hX hbl hbA hS (ix_in c10) dL_law_340 ?_
  obtain ⟨x11, h12, h⟩ := bd_s h
  refine cM_V (As := [.int (xs ((y3 + 1) : Int32).toNatClampNeg), .int (xs ((y3 + 2) : Int32).toNatClampNeg), .int (xs ((y3 + 3) : Int32).toNatClampNeg), .int (xs ((y3 + 4) : Int32).toNatClampNeg)]) (rest := [.int x5.1]) (n := 4) (ov := (some (.int x11.1))) (wc := modelW k b2 M) (wc' := modelW k b2 x11.2) (w1 := rcW k a x5.2 ++ (modelW k b2 x11.2)) hx hb hml hown hts hK hN hl.1 hP hD hS (Sp.rgt (md_ad k b2 _) (md_ad k b2 _)) (c_X5_fail l D k b2 M (xs ((y3 + 1) : Int32).toNatClampNeg) (xs ((y3 + 2) : Int32).toNatClampNeg) (xs ((y3 + 3) : Int32).toNatClampNeg) (xs ((y3 + 4) : Int32).toNatClampNeg) x11 h12) gL_law_X5_fail rfl (by decide +kernel) ⟨⟨rfl, rfl⟩, Nat.le_of_ble_eq_true rfl, Nat.le_of_ble_eq_true rfl⟩ 0 5 rfl rfl rfl rfl rfl (Nat.le_of_ble_eq_true rfl) dL_law_341 ⟨Nat.le_of_ble_eq_true rfl, Nat.le_of_ble_eq_true rfl⟩ (fun H locs hP hD hS => ?_)
  show W p l e room_1 s m #[Value.ref b] below meth c H locs 81 8057 Q (F0 m 344 ls [.int x11.1, .int x5.1])
  refine lv_icmp_eq (tgt := 986) hx hb dL_law_344 (by decide) (fun c13 => ?_) (fun c13 => ?_)
  · have h := if_t h c13
    obtain rfl := Option.some.inj h
    exact K ls H locs hl hP hD hS
  · have h := if_f h c13
    refine lv_iconst (v := 0) hx hb dL_law_347 (by decide) ?_
    cases h
set_option maxHeartbeats 4000000 in
set_option maxRecDepth 100000 in
theorem law_5 {p : Program} {l : Launch} {e : Env} {s : State} {m : MethodId} {below : List Frame} {meth : Method} {c : Code} {Q : State → Prop} {b L : Nat} {xs : Nat → Int32} (C0 : lw_At p s m meth c b L xs) {D : va_G} {k : Nat → ClassId} {a b2 : Nat → Nat} (hK : va_K D vwCl (ty5 k) s) (hN : NN s) (y3 : Int32) (R : RcV) (M : ModelV) (x : RcV × ModelV) (h : f_law_5 xs L y3 R M = some x) (K : ∀ (ls : Array Slot) (H : Heap) (locs : List Loc), lv_has ls 4 [(0, .ref b), (1, .ref (a 0)), (2, .ref (b2 0)), (3, .int y3)] → va_P D vwCl (rcW k a x.1 ++ modelW k b2 x.2) H → va_D (fun q : Nat => s.heap.size ≤ q) (rcW k a x.1 ++ modelW k b2 x.2) → va_S (fun q : Nat => s.heap.size ≤ q) s.heap H locs → W p l e room_1 s m #[Value.ref b] below meth c H locs 81 8057 Q (F0 m 986 ls [])) : ∀ (ls : Array Slot) (H : Heap) (locs : List Loc), lv_has ls 4 [(0, .ref b), (1, .ref (a 0)), (2, .ref (b2 0)), (3, .int y3)] → va_P D vwCl (rcW k a R ++ modelW k b2 M) H → va_D (fun q : Nat => s.heap.size ≤ q) (rcW k a R ++ modelW k b2 M) → va_S (fun q : Nat => s.heap.size ≤ q) s.heap H locs → W p l e room_1 s m #[Value.ref b] below meth c H locs 81 8057 Q (F0 m 349 ls []) := by
  obtain ⟨hx, hb, hr, hml, hown, hts, hX, hbl, hlocks, hgv⟩ := C0
  have hts := fun w h => hts w (wsL_law_in w h)
  have hbA : ¬ (fun q : Nat => s.heap.size ≤ q) b := Nat.not_le.mpr hbl
  intro ls H locs hl hP hD hS
  unfold f_law_5 at h
  refine lv_aload_n hx hb dL_law_349 rfl (lv_at hl 1 rfl) ?_
  refine lv_aload_n hx hb dL_law_350 rfl (lv_at hl 0 rfl) ?_
  refine lv_iload_n hx hb dL_law_351 rfl (lv_at hl 3 rfl) ?_
  refine lv_iconst (v := 1) hx hb dL_law_352 (by decide) ?_
  refine lv_iadd hx hb dL_law_353 ?_
  obtain ⟨c1, h⟩ := gd_s h
  refine va_sld hx hb hX hbl hbA hS (ix_in c1) dL_law_354 ?_
  refine lv_aload_n hx hb dL_law_355 rfl (lv_at hl 0 rfl) ?_
  refine lv_iload_n hx hb dL_law_356 rfl (lv_at hl 3 rfl) ?_
  refine lv_iconst (v := 2) hx hb dL_law_357 (by decide) ?_
  refine lv_iadd hx hb dL_law_358 ?_
  obtain ⟨c2, h⟩ := gd_s h
  refine va_sld hx hb hX hbl hbA hS (ix_in c2) dL_law_359 ?_
  refine lv_aload_n hx hb dL_law_360 rfl (lv_at hl 0 rfl) ?_
  refine lv_iload_n hx hb dL_law_361 rfl (lv_at hl 3 rfl) ?_
  refine lv_iconst (v := 3) hx hb dL_law_362 (by decide) ?_
  refine lv_iadd hx hb dL_law_363 ?_
  obtain ⟨c3, h⟩ := gd_s h
  refine va_sld hx hb hX hbl hbA hS (ix_in c3) dL_law_364 ?_
  obtain ⟨x4, h5, h⟩ := bd_s h
  refine cM_V (As := [.int (xs ((y3 + 1) : Int32).toNatClampNeg), .int (xs ((y3 + 2) : Int32).toNatClampNeg), .int (xs ((y3 + 3) : Int32).toNatClampNeg)]) (rest := []) (n := 3) (ov := (some (.int x4.1))) (wc := rcW k a R) (wc' := rcW k a x4.2) (w1 := rcW k a x4.2 ++ (modelW k b2 M)) hx hb hml hown hts hK hN hl.1 hP hD hS (Sp.lft (rc_ad k a _) (rc_ad k a _)) (c_X4_rain l D k a R (xs ((y3 + 1) : Int32).toNatClampNeg) (xs ((y3 + 2) : Int32).toNatClampNeg) (xs ((y3 + 3) : Int32).toNatClampNeg) x4 h5) gL_law_X4_rain rfl (by decide +kernel) ⟨⟨rfl, rfl⟩, Nat.le_of_ble_eq_true rfl, Nat.le_of_ble_eq_true rfl⟩ 0 4 rfl rfl rfl rfl rfl (Nat.le_of_ble_eq_true rfl) dL_law_365 ⟨Nat.le_of_ble_eq_true rfl, Nat.le_of_ble_eq_true rfl⟩ (fun H locs hP hD hS => ?_)
  show W p l e room_1 s m #[Value.ref b] below meth c H locs 81 8057 Q (F0 m 368 ls [.int x4.1])
  refine lv_aload_n hx hb dL_law_368 rfl (lv_at hl 2 rfl) ?_
  refine lv_aload_n hx hb dL_law_369 rfl (lv_at hl 0 rfl) ?_
  refine lv_iload_n hx hb dL_law_370 rfl (lv_at hl 3 rfl) ?_
  refine lv_iconst (v := 1) hx hb dL_law_371 (by decide) ?_
  refine lv_iadd hx hb dL_law_372 ?_
  obtain ⟨c6, h⟩ := gd_s h
  refine va_sld hx hb hX hbl hbA hS (ix_in c6) dL_law_373 ?_
  refine lv_aload_n hx hb dL_law_374 rfl (lv_at hl 0 rfl) ?_
  refine lv_iload_n hx hb dL_law_375 rfl (lv_at hl 3 rfl) ?_
  refine lv_iconst (v := 2) hx hb dL_law_376 (by decide) ?_
  refine lv_iadd hx hb dL_law_377 ?_
  obtain ⟨c7, h⟩ := gd_s h
  refine va_sld hx hb hX hbl hbA hS (ix_in c7) dL_law_378 ?_
  refine lv_aload_n hx hb dL_law_379 rfl (lv_at hl 0 rfl) ?_
  refine lv_iload_n hx hb dL_law_380 rfl (lv_at hl 3 rfl) ?_
  refine lv_iconst (v := 3) hx hb dL_law_381 (by decide) ?_
  refine lv_iadd hx hb dL_law_382 ?_
  obtain ⟨c8, h⟩ := gd_s h
  refine va_sld hx hb hX hbl hbA hS (ix_in c8) dL_law_383 ?_
  obtain ⟨x9, h10, h⟩ := bd_s h
  refine cM_V (As := [.int (xs ((y3 + 1) : Int32).toNatClampNeg), .int (xs ((y3 + 2) : Int32).toNatClampNeg), .int (xs ((y3 + 3) : Int32).toNatClampNeg)]) (rest := [.int x4.1]) (n := 3) (ov := (some (.int x9.1))) (wc := modelW k b2 M) (wc' := modelW k b2 x9.2) (w1 := rcW k a x4.2 ++ (modelW k b2 x9.2)) hx hb hml hown hts hK hN hl.1 hP hD hS (Sp.rgt (md_ad k b2 _) (md_ad k b2 _)) (c_X5_rain l D k b2 M (xs ((y3 + 1) : Int32).toNatClampNeg) (xs ((y3 + 2) : Int32).toNatClampNeg) (xs ((y3 + 3) : Int32).toNatClampNeg) x9 h10) gL_law_X5_rain rfl (by decide +kernel) ⟨⟨rfl, rfl⟩, Nat.le_of_ble_eq_true rfl, Nat.le_of_ble_eq_true rfl⟩ 0 5 rfl rfl rfl rfl rfl (Nat.le_of_ble_eq_true rfl) dL_law_384 ⟨Nat.le_of_ble_eq_true rfl, Nat.le_of_ble_eq_true rfl⟩ (fun H locs hP hD hS => ?_)
  show W p l e room_1 s m #[Value.ref b] below meth c H locs 81 8057 Q (F0 m 387 ls [.int x9.1, .int x4.1])
  refine lv_icmp_eq (tgt := 986) hx hb dL_law_387 (by decide) (fun c11 => ?_) (fun c11 => ?_)
  · have h := if_t h c11
    obtain rfl := Option.some.inj h
    exact K ls H locs hl hP hD hS
  · have h := if_f h c11
    refine lv_iconst (v := 0) hx hb dL_law_390 (by decide) ?_
    cases h
set_option maxHeartbeats 4000000 in
set_option maxRecDepth 100000 in
theorem law_6 {p : Program} {l : Launch} {e : Env} {s : State} {m : MethodId} {below : List Frame} {meth : Method} {c : Code} {Q : State → Prop} {b L : Nat} {xs : Nat → Int32} (C0 : lw_At p s m meth c b L xs) {D : va_G} {k : Nat → ClassId} {a b2 : Nat → Nat} (hK : va_K D vwCl (ty5 k) s) (hN : NN s) (y3 : Int32) (R : RcV) (M : ModelV) (x : RcV × ModelV) (h : f_law_6 xs L y3 R M = some x) (K : ∀ (ls : Array Slot) (H : Heap) (locs : List Loc), lv_has ls 4 [(0, .ref b), (1, .ref (a 0)), (2, .ref (b2 0)), (3, .int y3)] → va_P D vwCl (rcW k a x.1 ++ modelW k b2 x.2) H → va_D (fun q : Nat => s.heap.size ≤ q) (rcW k a x.1 ++ modelW k b2 x.2) → va_S (fun q : Nat => s.heap.size ≤ q) s.heap H locs → W p l e room_1 s m #[Value.ref b] below meth c H locs 81 8057 Q (F0 m 986 ls [])) : ∀ (ls : Array Slot) (H : Heap) (locs : List Loc), lv_has ls 4 [(0, .ref b), (1, .ref (a 0)), (2, .ref (b2 0)), (3, .int y3)] → va_P D vwCl (rcW k a R ++ modelW k b2 M) H → va_D (fun q : Nat => s.heap.size ≤ q) (rcW k a R ++ modelW k b2 M) → va_S (fun q : Nat => s.heap.size ≤ q) s.heap H locs → W p l e room_1 s m #[Value.ref b] below meth c H locs 81 8057 Q (F0 m 392 ls []) := by
  obtain ⟨hx, hb, hr, hml, hown, hts, hX, hbl, hlocks, hgv⟩ := C0
  have hts := fun w h => hts w (wsL_law_in w h)
  have hbA : ¬ (fun q : Nat => s.heap.size ≤ q) b := Nat.not_le.mpr hbl
  intro ls H locs hl hP hD hS
  unfold f_law_6 at h
  refine lv_aload_n hx hb dL_law_392 rfl (lv_at hl 1 rfl) ?_
  refine lv_aload_n hx hb dL_law_393 rfl (lv_at hl 0 rfl) ?_
  refine lv_iload_n hx hb dL_law_394 rfl (lv_at hl 3 rfl) ?_
  refine lv_iconst (v := 1) hx hb dL_law_395 (by decide) ?_
  refine lv_iadd hx hb dL_law_396 ?_
  obtain ⟨c1, h⟩ := gd_s h
  refine va_sld hx hb hX hbl hbA hS (ix_in c1) dL_law_397 ?_
  refine lv_aload_n hx hb dL_law_398 rfl (lv_at hl 0 rfl) ?_
  refine lv_iload_n hx hb dL_law_399 rfl (lv_at hl 3 rfl) ?_
  refine lv_iconst (v := 2) hx hb dL_law_400 (by decide) ?_
  refine lv_iadd hx hb dL_law_401 ?_
  obtain ⟨c2, h⟩ := gd_s h
  refine va_sld hx hb hX hbl hbA hS (ix_in c2) dL_law_402 ?_
  obtain ⟨x3, h4, h⟩ := bd_s h
  refine cR_V (As := [.int (xs ((y3 + 1) : Int32).toNatClampNeg), .int (xs ((y3 + 2) : Int32).toNatClampNeg)]) (rest := []) (n := 2) (v := .int x3) hx hb hml hown hts hK hN hl.1 (c_X4_of l D k a R (xs ((y3 + 1) : Int32).toNatClampNeg) (xs ((y3 + 2) : Int32).toNatClampNeg) x3 h4) gL_law_X4_of rfl (by decide +kernel) ⟨⟨rfl, rfl⟩, Nat.le_of_ble_eq_true rfl, Nat.le_of_ble_eq_true rfl⟩ (va_P.lft hP) 0 4 rfl rfl rfl rfl rfl (Nat.le_of_ble_eq_true rfl) dL_law_403 ⟨Nat.le_of_ble_eq_true rfl, Nat.le_of_ble_eq_true rfl⟩ ?_
  refine lv_aload_n hx hb dL_law_406 rfl (lv_at hl 2 rfl) ?_
  refine lv_aload_n hx hb dL_law_407 rfl (lv_at hl 0 rfl) ?_
  refine lv_iload_n hx hb dL_law_408 rfl (lv_at hl 3 rfl) ?_
  refine lv_iconst (v := 1) hx hb dL_law_409 (by decide) ?_
  refine lv_iadd hx hb dL_law_410 ?_
  obtain ⟨c5, h⟩ := gd_s h
  refine va_sld hx hb hX hbl hbA hS (ix_in c5) dL_law_411 ?_
  refine lv_aload_n hx hb dL_law_412 rfl (lv_at hl 0 rfl) ?_
  refine lv_iload_n hx hb dL_law_413 rfl (lv_at hl 3 rfl) ?_
  refine lv_iconst (v := 2) hx hb dL_law_414 (by decide) ?_
  refine lv_iadd hx hb dL_law_415 ?_
  obtain ⟨c6, h⟩ := gd_s h
  refine va_sld hx hb hX hbl hbA hS (ix_in c6) dL_law_416 ?_
  obtain ⟨x7, h8, h⟩ := bd_s h
  refine cR_V (As := [.int (xs ((y3 + 1) : Int32).toNatClampNeg), .int (xs ((y3 + 2) : Int32).toNatClampNeg)]) (rest := [.int x3]) (n := 2) (v := .int x7) hx hb hml hown hts hK hN hl.1 (c_X5_of l D k b2 M (xs ((y3 + 1) : Int32).toNatClampNeg) (xs ((y3 + 2) : Int32).toNatClampNeg) x7 h8) gL_law_X5_of rfl (by decide +kernel) ⟨⟨rfl, rfl⟩, Nat.le_of_ble_eq_true rfl, Nat.le_of_ble_eq_true rfl⟩ (va_P.rgt hP) 0 5 rfl rfl rfl rfl rfl (Nat.le_of_ble_eq_true rfl) dL_law_417 ⟨Nat.le_of_ble_eq_true rfl, Nat.le_of_ble_eq_true rfl⟩ ?_
  refine lv_icmp_eq (tgt := 986) hx hb dL_law_420 (by decide) (fun c9 => ?_) (fun c9 => ?_)
  · have h := if_t h c9
    obtain rfl := Option.some.inj h
    exact K ls H locs hl hP hD hS
  · have h := if_f h c9
    refine lv_iconst (v := 0) hx hb dL_law_423 (by decide) ?_
    cases h
set_option maxHeartbeats 4000000 in
set_option maxRecDepth 100000 in
theorem law_7 {p : Program} {l : Launch} {e : Env} {s : State} {m : MethodId} {below : List Frame} {meth : Method} {c : Code} {Q : State → Prop} {b L : Nat} {xs : Nat → Int32} (C0 : lw_At p s m meth c b L xs) {D : va_G} {k : Nat → ClassId} {a b2 : Nat → Nat} (hK : va_K D vwCl (ty5 k) s) (hN : NN s) (y3 : Int32) (R : RcV) (M : ModelV) (x : RcV × ModelV) (h : f_law_7 xs L y3 R M = some x) (K : ∀ (ls : Array Slot) (H : Heap) (locs : List Loc), lv_has ls 4 [(0, .ref b), (1, .ref (a 0)), (2, .ref (b2 0)), (3, .int y3)] → va_P D vwCl (rcW k a x.1 ++ modelW k b2 x.2) H → va_D (fun q : Nat => s.heap.size ≤ q) (rcW k a x.1 ++ modelW k b2 x.2) → va_S (fun q : Nat => s.heap.size ≤ q) s.heap H locs → W p l e room_1 s m #[Value.ref b] below meth c H locs 81 8057 Q (F0 m 986 ls [])) : ∀ (ls : Array Slot) (H : Heap) (locs : List Loc), lv_has ls 4 [(0, .ref b), (1, .ref (a 0)), (2, .ref (b2 0)), (3, .int y3)] → va_P D vwCl (rcW k a R ++ modelW k b2 M) H → va_D (fun q : Nat => s.heap.size ≤ q) (rcW k a R ++ modelW k b2 M) → va_S (fun q : Nat => s.heap.size ≤ q) s.heap H locs → W p l e room_1 s m #[Value.ref b] below meth c H locs 81 8057 Q (F0 m 425 ls []) := by
  obtain ⟨hx, hb, hr, hml, hown, hts, hX, hbl, hlocks, hgv⟩ := C0
  have hts := fun w h => hts w (wsL_law_in w h)
  have hbA : ¬ (fun q : Nat => s.heap.size ≤ q) b := Nat.not_le.mpr hbl
  intro ls H locs hl hP hD hS
  unfold f_law_7 at h
  refine lv_aload_n hx hb dL_law_425 rfl (lv_at hl 1 rfl) ?_
  refine lv_aload_n hx hb dL_law_426 rfl (lv_at hl 0 rfl) ?_
  refine lv_iload_n hx hb dL_law_427 rfl (lv_at hl 3 rfl) ?_
  refine lv_iconst (v := 1) hx hb dL_law_428 (by decide) ?_
  refine lv_iadd hx hb dL_law_429 ?_
  obtain ⟨c1, h⟩ := gd_s h
  refine va_sld hx hb hX hbl hbA hS (ix_in c1) dL_law_430 ?_
  refine lv_aload_n hx hb dL_law_431 rfl (lv_at hl 0 rfl) ?_
  refine lv_iload_n hx hb dL_law_432 rfl (lv_at hl 3 rfl) ?_
  refine lv_iconst (v := 2) hx hb dL_law_433 (by decide) ?_
  refine lv_iadd hx hb dL_law_434 ?_
  obtain ⟨c2, h⟩ := gd_s h
  refine va_sld hx hb hX hbl hbA hS (ix_in c2) dL_law_435 ?_
  obtain ⟨x3, h4, h⟩ := bd_s h
  refine cR_V (As := [.int (xs ((y3 + 1) : Int32).toNatClampNeg), .int (xs ((y3 + 2) : Int32).toNatClampNeg)]) (rest := []) (n := 2) (v := .int x3) hx hb hml hown hts hK hN hl.1 (c_X4_reading l D k a R (xs ((y3 + 1) : Int32).toNatClampNeg) (xs ((y3 + 2) : Int32).toNatClampNeg) x3 h4) gL_law_X4_reading rfl (by decide +kernel) ⟨⟨rfl, rfl⟩, Nat.le_of_ble_eq_true rfl, Nat.le_of_ble_eq_true rfl⟩ (va_P.lft hP) 0 4 rfl rfl rfl rfl rfl (Nat.le_of_ble_eq_true rfl) dL_law_436 ⟨Nat.le_of_ble_eq_true rfl, Nat.le_of_ble_eq_true rfl⟩ ?_
  refine lv_aload_n hx hb dL_law_439 rfl (lv_at hl 2 rfl) ?_
  refine lv_aload_n hx hb dL_law_440 rfl (lv_at hl 0 rfl) ?_
  refine lv_iload_n hx hb dL_law_441 rfl (lv_at hl 3 rfl) ?_
  refine lv_iconst (v := 1) hx hb dL_law_442 (by decide) ?_
  refine lv_iadd hx hb dL_law_443 ?_
  obtain ⟨c5, h⟩ := gd_s h
  refine va_sld hx hb hX hbl hbA hS (ix_in c5) dL_law_444 ?_
  refine lv_aload_n hx hb dL_law_445 rfl (lv_at hl 0 rfl) ?_
  refine lv_iload_n hx hb dL_law_446 rfl (lv_at hl 3 rfl) ?_
  refine lv_iconst (v := 2) hx hb dL_law_447 (by decide) ?_
  refine lv_iadd hx hb dL_law_448 ?_
  obtain ⟨c6, h⟩ := gd_s h
  refine va_sld hx hb hX hbl hbA hS (ix_in c6) dL_law_449 ?_
  obtain ⟨x7, h8, h⟩ := bd_s h
  refine cR_V (As := [.int (xs ((y3 + 1) : Int32).toNatClampNeg), .int (xs ((y3 + 2) : Int32).toNatClampNeg)]) (rest := [.int x3]) (n := 2) (v := .int x7) hx hb hml hown hts hK hN hl.1 (c_X5_reading l D k b2 M (xs ((y3 + 1) : Int32).toNatClampNeg) (xs ((y3 + 2) : Int32).toNatClampNeg) x7 h8) gL_law_X5_reading rfl (by decide +kernel) ⟨⟨rfl, rfl⟩, Nat.le_of_ble_eq_true rfl, Nat.le_of_ble_eq_true rfl⟩ (va_P.rgt hP) 0 5 rfl rfl rfl rfl rfl (Nat.le_of_ble_eq_true rfl) dL_law_450 ⟨Nat.le_of_ble_eq_true rfl, Nat.le_of_ble_eq_true rfl⟩ ?_
  refine lv_icmp_eq (tgt := 986) hx hb dL_law_453 (by decide) (fun c9 => ?_) (fun c9 => ?_)
  · have h := if_t h c9
    obtain rfl := Option.some.inj h
    exact K ls H locs hl hP hD hS
  · have h := if_f h c9
    refine lv_iconst (v := 0) hx hb dL_law_456 (by decide) ?_
    cases h
set_option maxHeartbeats 4000000 in
set_option maxRecDepth 100000 in
theorem law_8 {p : Program} {l : Launch} {e : Env} {s : State} {m : MethodId} {below : List Frame} {meth : Method} {c : Code} {Q : State → Prop} {b L : Nat} {xs : Nat → Int32} (C0 : lw_At p s m meth c b L xs) {D : va_G} {k : Nat → ClassId} {a b2 : Nat → Nat} (hK : va_K D vwCl (ty5 k) s) (hN : NN s) (y3 : Int32) (R : RcV) (M : ModelV) (x : RcV × ModelV) (h : f_law_8 xs L y3 R M = some x) (K : ∀ (ls : Array Slot) (H : Heap) (locs : List Loc), lv_has ls 4 [(0, .ref b), (1, .ref (a 0)), (2, .ref (b2 0)), (3, .int y3)] → va_P D vwCl (rcW k a x.1 ++ modelW k b2 x.2) H → va_D (fun q : Nat => s.heap.size ≤ q) (rcW k a x.1 ++ modelW k b2 x.2) → va_S (fun q : Nat => s.heap.size ≤ q) s.heap H locs → W p l e room_1 s m #[Value.ref b] below meth c H locs 81 8057 Q (F0 m 986 ls [])) : ∀ (ls : Array Slot) (H : Heap) (locs : List Loc), lv_has ls 4 [(0, .ref b), (1, .ref (a 0)), (2, .ref (b2 0)), (3, .int y3)] → va_P D vwCl (rcW k a R ++ modelW k b2 M) H → va_D (fun q : Nat => s.heap.size ≤ q) (rcW k a R ++ modelW k b2 M) → va_S (fun q : Nat => s.heap.size ≤ q) s.heap H locs → W p l e room_1 s m #[Value.ref b] below meth c H locs 81 8057 Q (F0 m 458 ls []) := by
  obtain ⟨hx, hb, hr, hml, hown, hts, hX, hbl, hlocks, hgv⟩ := C0
  have hts := fun w h => hts w (wsL_law_in w h)
  have hbA : ¬ (fun q : Nat => s.heap.size ≤ q) b := Nat.not_le.mpr hbl
  intro ls H locs hl hP hD hS
  unfold f_law_8 at h
  refine lv_aload_n hx hb dL_law_458 rfl (lv_at hl 1 rfl) ?_
  refine lv_aload_n hx hb dL_law_459 rfl (lv_at hl 0 rfl) ?_
  refine lv_iload_n hx hb dL_law_460 rfl (lv_at hl 3 rfl) ?_
  refine lv_iconst (v := 1) hx hb dL_law_461 (by decide) ?_
  refine lv_iadd hx hb dL_law_462 ?_
  obtain ⟨c1, h⟩ := gd_s h
  refine va_sld hx hb hX hbl hbA hS (ix_in c1) dL_law_463 ?_
  obtain ⟨x2, h3, h⟩ := bd_s h
  refine cR_V (As := [.int (xs ((y3 + 1) : Int32).toNatClampNeg)]) (rest := []) (n := 1) (v := .int x2) hx hb hml hown hts hK hN hl.1 (c_X4_working l D k a R (xs ((y3 + 1) : Int32).toNatClampNeg) x2 h3) gL_law_X4_working rfl (by decide +kernel) ⟨⟨rfl, rfl⟩, Nat.le_of_ble_eq_true rfl, Nat.le_of_ble_eq_true rfl⟩ (va_P.lft hP) 0 4 rfl rfl rfl rfl rfl (Nat.le_of_ble_eq_true rfl) dL_law_464 ⟨Nat.le_of_ble_eq_true rfl, Nat.le_of_ble_eq_true rfl⟩ ?_
  refine lv_aload_n hx hb dL_law_467 rfl (lv_at hl 2 rfl) ?_
  refine lv_aload_n hx hb dL_law_468 rfl (lv_at hl 0 rfl) ?_
  refine lv_iload_n hx hb dL_law_469 rfl (lv_at hl 3 rfl) ?_
  refine lv_iconst (v := 1) hx hb dL_law_470 (by decide) ?_
  refine lv_iadd hx hb dL_law_471 ?_
  obtain ⟨c4, h⟩ := gd_s h
  refine va_sld hx hb hX hbl hbA hS (ix_in c4) dL_law_472 ?_
  obtain ⟨x5, h6, h⟩ := bd_s h
  refine cR_V (As := [.int (xs ((y3 + 1) : Int32).toNatClampNeg)]) (rest := [.int x2]) (n := 1) (v := .int x5) hx hb hml hown hts hK hN hl.1 (c_X5_working l D k b2 M (xs ((y3 + 1) : Int32).toNatClampNeg) x5 h6) gL_law_X5_working rfl (by decide +kernel) ⟨⟨rfl, rfl⟩, Nat.le_of_ble_eq_true rfl, Nat.le_of_ble_eq_true rfl⟩ (va_P.rgt hP) 0 5 rfl rfl rfl rfl rfl (Nat.le_of_ble_eq_true rfl) dL_law_473 ⟨Nat.le_of_ble_eq_true rfl, Nat.le_of_ble_eq_true rfl⟩ ?_
  refine lv_icmp_eq (tgt := 986) hx hb dL_law_476 (by decide) (fun c7 => ?_) (fun c7 => ?_)
  · have h := if_t h c7
    obtain rfl := Option.some.inj h
    exact K ls H locs hl hP hD hS
  · have h := if_f h c7
    refine lv_iconst (v := 0) hx hb dL_law_479 (by decide) ?_
    cases h
set_option maxHeartbeats 4000000 in
set_option maxRecDepth 100000 in
theorem law_9 {p : Program} {l : Launch} {e : Env} {s : State} {m : MethodId} {below : List Frame} {meth : Method} {c : Code} {Q : State → Prop} {b L : Nat} {xs : Nat → Int32} (C0 : lw_At p s m meth c b L xs) {D : va_G} {k : Nat → ClassId} {a b2 : Nat → Nat} (hK : va_K D vwCl (ty5 k) s) (hN : NN s) (y3 : Int32) (R : RcV) (M : ModelV) (x : RcV × ModelV) (h : f_law_9 xs L y3 R M = some x) (K : ∀ (ls : Array Slot) (H : Heap) (locs : List Loc), lv_has ls 4 [(0, .ref b), (1, .ref (a 0)), (2, .ref (b2 0)), (3, .int y3)] → va_P D vwCl (rcW k a x.1 ++ modelW k b2 x.2) H → va_D (fun q : Nat => s.heap.size ≤ q) (rcW k a x.1 ++ modelW k b2 x.2) → va_S (fun q : Nat => s.heap.size ≤ q) s.heap H locs → W p l e room_1 s m #[Value.ref b] below meth c H locs 81 8057 Q (F0 m 986 ls [])) : ∀ (ls : Array Slot) (H : Heap) (locs : List Loc), lv_has ls 4 [(0, .ref b), (1, .ref (a 0)), (2, .ref (b2 0)), (3, .int y3)] → va_P D vwCl (rcW k a R ++ modelW k b2 M) H → va_D (fun q : Nat => s.heap.size ≤ q) (rcW k a R ++ modelW k b2 M) → va_S (fun q : Nat => s.heap.size ≤ q) s.heap H locs → W p l e room_1 s m #[Value.ref b] below meth c H locs 81 8057 Q (F0 m 481 ls []) := by
  obtain ⟨hx, hb, hr, hml, hown, hts, hX, hbl, hlocks, hgv⟩ := C0
  have hts := fun w h => hts w (wsL_law_in w h)
  have hbA : ¬ (fun q : Nat => s.heap.size ≤ q) b := Nat.not_le.mpr hbl
  intro ls H locs hl hP hD hS
  unfold f_law_9 at h
  refine lv_aload_n hx hb dL_law_481 rfl (lv_at hl 1 rfl) ?_
  refine lv_aload_n hx hb dL_law_482 rfl (lv_at hl 0 rfl) ?_
  refine lv_iload_n hx hb dL_law_483 rfl (lv_at hl 3 rfl) ?_
  refine lv_iconst (v := 1) hx hb dL_law_484 (by decide) ?_
  refine lv_iadd hx hb dL_law_485 ?_
  obtain ⟨c1, h⟩ := gd_s h
  refine va_sld hx hb hX hbl hbA hS (ix_in c1) dL_law_486 ?_
  refine lv_aload_n hx hb dL_law_487 rfl (lv_at hl 0 rfl) ?_
  refine lv_iload_n hx hb dL_law_488 rfl (lv_at hl 3 rfl) ?_
  refine lv_iconst (v := 2) hx hb dL_law_489 (by decide) ?_
  refine lv_iadd hx hb dL_law_490 ?_
  obtain ⟨c2, h⟩ := gd_s h
  refine va_sld hx hb hX hbl hbA hS (ix_in c2) dL_law_491 ?_
  refine lv_aload_n hx hb dL_law_492 rfl (lv_at hl 0 rfl) ?_
  refine lv_iload_n hx hb dL_law_493 rfl (lv_at hl 3 rfl) ?_
  refine lv_iconst (v := 3) hx hb dL_law_494 (by decide) ?_
  refine lv_iadd hx hb dL_law_495 ?_
  obtain ⟨c3, h⟩ := gd_s h
  refine va_sld hx hb hX hbl hbA hS (ix_in c3) dL_law_496 ?_
  obtain ⟨x4, h5, h⟩ := bd_s h
  refine cM_V (As := [.int (xs ((y3 + 1) : Int32).toNatClampNeg), .int (xs ((y3 + 2) : Int32).toNatClampNeg), .int (xs ((y3 + 3) : Int32).toNatClampNeg)]) (rest := []) (n := 3) (ov := (some (.int x4.1))) (wc := rcW k a R) (wc' := rcW k a x4.2) (w1 := rcW k a x4.2 ++ (modelW k b2 M)) hx hb hml hown hts hK hN hl.1 hP hD hS (Sp.lft (rc_ad k a _) (rc_ad k a _)) (c_X4_owner l D k a R (xs ((y3 + 1) : Int32).toNatClampNeg) (xs ((y3 + 2) : Int32).toNatClampNeg) (xs ((y3 + 3) : Int32).toNatClampNeg) x4 h5) gL_law_X4_owner rfl (by decide +kernel) ⟨⟨rfl, rfl⟩, Nat.le_of_ble_eq_true rfl, Nat.le_of_ble_eq_true rfl⟩ 0 4 rfl rfl rfl rfl rfl (Nat.le_of_ble_eq_true rfl) dL_law_497 ⟨Nat.le_of_ble_eq_true rfl, Nat.le_of_ble_eq_true rfl⟩ (fun H locs hP hD hS => ?_)
  show W p l e room_1 s m #[Value.ref b] below meth c H locs 81 8057 Q (F0 m 500 ls [.int x4.1])
  refine lv_aload_n hx hb dL_law_500 rfl (lv_at hl 2 rfl) ?_
  refine lv_aload_n hx hb dL_law_501 rfl (lv_at hl 0 rfl) ?_
  refine lv_iload_n hx hb dL_law_502 rfl (lv_at hl 3 rfl) ?_
  refine lv_iconst (v := 1) hx hb dL_law_503 (by decide) ?_
  refine lv_iadd hx hb dL_law_504 ?_
  obtain ⟨c6, h⟩ := gd_s h
  refine va_sld hx hb hX hbl hbA hS (ix_in c6) dL_law_505 ?_
  refine lv_aload_n hx hb dL_law_506 rfl (lv_at hl 0 rfl) ?_
  refine lv_iload_n hx hb dL_law_507 rfl (lv_at hl 3 rfl) ?_
  refine lv_iconst (v := 2) hx hb dL_law_508 (by decide) ?_
  refine lv_iadd hx hb dL_law_509 ?_
  obtain ⟨c7, h⟩ := gd_s h
  refine va_sld hx hb hX hbl hbA hS (ix_in c7) dL_law_510 ?_
  refine lv_aload_n hx hb dL_law_511 rfl (lv_at hl 0 rfl) ?_
  refine lv_iload_n hx hb dL_law_512 rfl (lv_at hl 3 rfl) ?_
  refine lv_iconst (v := 3) hx hb dL_law_513 (by decide) ?_
  refine lv_iadd hx hb dL_law_514 ?_
  obtain ⟨c8, h⟩ := gd_s h
  refine va_sld hx hb hX hbl hbA hS (ix_in c8) dL_law_515 ?_
  obtain ⟨x9, h10, h⟩ := bd_s h
  refine cM_V (As := [.int (xs ((y3 + 1) : Int32).toNatClampNeg), .int (xs ((y3 + 2) : Int32).toNatClampNeg), .int (xs ((y3 + 3) : Int32).toNatClampNeg)]) (rest := [.int x4.1]) (n := 3) (ov := (some (.int x9.1))) (wc := modelW k b2 M) (wc' := modelW k b2 x9.2) (w1 := rcW k a x4.2 ++ (modelW k b2 x9.2)) hx hb hml hown hts hK hN hl.1 hP hD hS (Sp.rgt (md_ad k b2 _) (md_ad k b2 _)) (c_X5_owner l D k b2 M (xs ((y3 + 1) : Int32).toNatClampNeg) (xs ((y3 + 2) : Int32).toNatClampNeg) (xs ((y3 + 3) : Int32).toNatClampNeg) x9 h10) gL_law_X5_owner rfl (by decide +kernel) ⟨⟨rfl, rfl⟩, Nat.le_of_ble_eq_true rfl, Nat.le_of_ble_eq_true rfl⟩ 0 5 rfl rfl rfl rfl rfl (Nat.le_of_ble_eq_true rfl) dL_law_516 ⟨Nat.le_of_ble_eq_true rfl, Nat.le_of_ble_eq_true rfl⟩ (fun H locs hP hD hS => ?_)
  show W p l e room_1 s m #[Value.ref b] below meth c H locs 81 8057 Q (F0 m 519 ls [.int x9.1, .int x4.1])
  refine lv_icmp_eq (tgt := 986) hx hb dL_law_519 (by decide) (fun c11 => ?_) (fun c11 => ?_)
  · have h := if_t h c11
    obtain rfl := Option.some.inj h
    exact K ls H locs hl hP hD hS
  · have h := if_f h c11
    refine lv_iconst (v := 0) hx hb dL_law_522 (by decide) ?_
    cases h
set_option maxHeartbeats 4000000 in
set_option maxRecDepth 100000 in
theorem law_10 {p : Program} {l : Launch} {e : Env} {s : State} {m : MethodId} {below : List Frame} {meth : Method} {c : Code} {Q : State → Prop} {b L : Nat} {xs : Nat → Int32} (C0 : lw_At p s m meth c b L xs) {D : va_G} {k : Nat → ClassId} {a b2 : Nat → Nat} (hK : va_K D vwCl (ty5 k) s) (hN : NN s) (y3 : Int32) (R : RcV) (M : ModelV) (x : RcV × ModelV) (h : f_law_10 xs L y3 R M = some x) (K : ∀ (ls : Array Slot) (H : Heap) (locs : List Loc), lv_has ls 4 [(0, .ref b), (1, .ref (a 0)), (2, .ref (b2 0)), (3, .int y3)] → va_P D vwCl (rcW k a x.1 ++ modelW k b2 x.2) H → va_D (fun q : Nat => s.heap.size ≤ q) (rcW k a x.1 ++ modelW k b2 x.2) → va_S (fun q : Nat => s.heap.size ≤ q) s.heap H locs → W p l e room_1 s m #[Value.ref b] below meth c H locs 81 8057 Q (F0 m 986 ls [])) : ∀ (ls : Array Slot) (H : Heap) (locs : List Loc), lv_has ls 4 [(0, .ref b), (1, .ref (a 0)), (2, .ref (b2 0)), (3, .int y3)] → va_P D vwCl (rcW k a R ++ modelW k b2 M) H → va_D (fun q : Nat => s.heap.size ≤ q) (rcW k a R ++ modelW k b2 M) → va_S (fun q : Nat => s.heap.size ≤ q) s.heap H locs → W p l e room_1 s m #[Value.ref b] below meth c H locs 81 8057 Q (F0 m 524 ls []) := by
  obtain ⟨hx, hb, hr, hml, hown, hts, hX, hbl, hlocks, hgv⟩ := C0
  have hts := fun w h => hts w (wsL_law_in w h)
  have hbA : ¬ (fun q : Nat => s.heap.size ≤ q) b := Nat.not_le.mpr hbl
  intro ls H locs hl hP hD hS
  unfold f_law_10 at h
  refine lv_aload_n hx hb dL_law_524 rfl (lv_at hl 1 rfl) ?_
  refine lv_aload_n hx hb dL_law_525 rfl (lv_at hl 0 rfl) ?_
  refine lv_iload_n hx hb dL_law_526 rfl (lv_at hl 3 rfl) ?_
  refine lv_iconst (v := 1) hx hb dL_law_527 (by decide) ?_
  refine lv_iadd hx hb dL_law_528 ?_
  obtain ⟨c1, h⟩ := gd_s h
  refine va_sld hx hb hX hbl hbA hS (ix_in c1) dL_law_529 ?_
  refine lv_aload_n hx hb dL_law_530 rfl (lv_at hl 0 rfl) ?_
  refine lv_iload_n hx hb dL_law_531 rfl (lv_at hl 3 rfl) ?_
  refine lv_iconst (v := 2) hx hb dL_law_532 (by decide) ?_
  refine lv_iadd hx hb dL_law_533 ?_
  obtain ⟨c2, h⟩ := gd_s h
  refine va_sld hx hb hX hbl hbA hS (ix_in c2) dL_law_534 ?_
  refine lv_aload_n hx hb dL_law_535 rfl (lv_at hl 0 rfl) ?_
  refine lv_iload_n hx hb dL_law_536 rfl (lv_at hl 3 rfl) ?_
  refine lv_iconst (v := 3) hx hb dL_law_537 (by decide) ?_
  refine lv_iadd hx hb dL_law_538 ?_
  obtain ⟨c3, h⟩ := gd_s h
  refine va_sld hx hb hX hbl hbA hS (ix_in c3) dL_law_539 ?_
  obtain ⟨x4, h5, h⟩ := bd_s h
  refine cM_V (As := [.int (xs ((y3 + 1) : Int32).toNatClampNeg), .int (xs ((y3 + 2) : Int32).toNatClampNeg), .int (xs ((y3 + 3) : Int32).toNatClampNeg)]) (rest := []) (n := 3) (ov := (some (.int x4.1))) (wc := rcW k a R) (wc' := rcW k a x4.2) (w1 := rcW k a x4.2 ++ (modelW k b2 M)) hx hb hml hown hts hK hN hl.1 hP hD hS (Sp.lft (rc_ad k a _) (rc_ad k a _)) (c_X4_cell l D k a R (xs ((y3 + 1) : Int32).toNatClampNeg) (xs ((y3 + 2) : Int32).toNatClampNeg) (xs ((y3 + 3) : Int32).toNatClampNeg) x4 h5) gL_law_X4_cell rfl (by decide +kernel) ⟨⟨rfl, rfl⟩, Nat.le_of_ble_eq_true rfl, Nat.le_of_ble_eq_true rfl⟩ 0 4 rfl rfl rfl rfl rfl (Nat.le_of_ble_eq_true rfl) dL_law_540 ⟨Nat.le_of_ble_eq_true rfl, Nat.le_of_ble_eq_true rfl⟩ (fun H locs hP hD hS => ?_)
  show W p l e room_1 s m #[Value.ref b] below meth c H locs 81 8057 Q (F0 m 543 ls [.int x4.1])
  refine lv_aload_n hx hb dL_law_543 rfl (lv_at hl 2 rfl) ?_
  refine lv_aload_n hx hb dL_law_544 rfl (lv_at hl 0 rfl) ?_
  refine lv_iload_n hx hb dL_law_545 rfl (lv_at hl 3 rfl) ?_
  refine lv_iconst (v := 1) hx hb dL_law_546 (by decide) ?_
  refine lv_iadd hx hb dL_law_547 ?_
  obtain ⟨c6, h⟩ := gd_s h
  refine va_sld hx hb hX hbl hbA hS (ix_in c6) dL_law_548 ?_
  refine lv_aload_n hx hb dL_law_549 rfl (lv_at hl 0 rfl) ?_
  refine lv_iload_n hx hb dL_law_550 rfl (lv_at hl 3 rfl) ?_
  refine lv_iconst (v := 2) hx hb dL_law_551 (by decide) ?_
  refine lv_iadd hx hb dL_law_552 ?_
  obtain ⟨c7, h⟩ := gd_s h
  refine va_sld hx hb hX hbl hbA hS (ix_in c7) dL_law_553 ?_
  refine lv_aload_n hx hb dL_law_554 rfl (lv_at hl 0 rfl) ?_
  refine lv_iload_n hx hb dL_law_555 rfl (lv_at hl 3 rfl) ?_
  refine lv_iconst (v := 3) hx hb dL_law_556 (by decide) ?_
  refine lv_iadd hx hb dL_law_557 ?_
  obtain ⟨c8, h⟩ := gd_s h
  refine va_sld hx hb hX hbl hbA hS (ix_in c8) dL_law_558 ?_
  obtain ⟨x9, h10, h⟩ := bd_s h
  refine cM_V (As := [.int (xs ((y3 + 1) : Int32).toNatClampNeg), .int (xs ((y3 + 2) : Int32).toNatClampNeg), .int (xs ((y3 + 3) : Int32).toNatClampNeg)]) (rest := [.int x4.1]) (n := 3) (ov := (some (.int x9.1))) (wc := modelW k b2 M) (wc' := modelW k b2 x9.2) (w1 := rcW k a x4.2 ++ (modelW k b2 x9.2)) hx hb hml hown hts hK hN hl.1 hP hD hS (Sp.rgt (md_ad k b2 _) (md_ad k b2 _)) (c_X5_cell l D k b2 M (xs ((y3 + 1) : Int32).toNatClampNeg) (xs ((y3 + 2) : Int32).toNatClampNeg) (xs ((y3 + 3) : Int32).toNatClampNeg) x9 h10) gL_law_X5_cell rfl (by decide +kernel) ⟨⟨rfl, rfl⟩, Nat.le_of_ble_eq_true rfl, Nat.le_of_ble_eq_true rfl⟩ 0 5 rfl rfl rfl rfl rfl (Nat.le_of_ble_eq_true rfl) dL_law_559 ⟨Nat.le_of_ble_eq_true rfl, Nat.le_of_ble_eq_true rfl⟩ (fun H locs hP hD hS => ?_)
  show W p l e room_1 s m #[Value.ref b] below meth c H locs 81 8057 Q (F0 m 562 ls [.int x9.1, .int x4.1])
  refine lv_icmp_eq (tgt := 986) hx hb dL_law_562 (by decide) (fun c11 => ?_) (fun c11 => ?_)
  · have h := if_t h c11
    obtain rfl := Option.some.inj h
    exact K ls H locs hl hP hD hS
  · have h := if_f h c11
    refine lv_iconst (v := 0) hx hb dL_law_565 (by decide) ?_
    cases h
set_option maxHeartbeats 4000000 in
set_option maxRecDepth 100000 in
theorem law_11 {p : Program} {l : Launch} {e : Env} {s : State} {m : MethodId} {below : List Frame} {meth : Method} {c : Code} {Q : State → Prop} {b L : Nat} {xs : Nat → Int32} (C0 : lw_At p s m meth c b L xs) {D : va_G} {k : Nat → ClassId} {a b2 : Nat → Nat} (hK : va_K D vwCl (ty5 k) s) (hN : NN s) (y3 : Int32) (R : RcV) (M : ModelV) (x : RcV × ModelV) (h : f_law_11 xs L y3 R M = some x) (K : ∀ (ls : Array Slot) (H : Heap) (locs : List Loc), lv_has ls 4 [(0, .ref b), (1, .ref (a 0)), (2, .ref (b2 0)), (3, .int y3)] → va_P D vwCl (rcW k a x.1 ++ modelW k b2 x.2) H → va_D (fun q : Nat => s.heap.size ≤ q) (rcW k a x.1 ++ modelW k b2 x.2) → va_S (fun q : Nat => s.heap.size ≤ q) s.heap H locs → W p l e room_1 s m #[Value.ref b] below meth c H locs 81 8057 Q (F0 m 986 ls [])) : ∀ (ls : Array Slot) (H : Heap) (locs : List Loc), lv_has ls 4 [(0, .ref b), (1, .ref (a 0)), (2, .ref (b2 0)), (3, .int y3)] → va_P D vwCl (rcW k a R ++ modelW k b2 M) H → va_D (fun q : Nat => s.heap.size ≤ q) (rcW k a R ++ modelW k b2 M) → va_S (fun q : Nat => s.heap.size ≤ q) s.heap H locs → W p l e room_1 s m #[Value.ref b] below meth c H locs 81 8057 Q (F0 m 567 ls []) := by
  obtain ⟨hx, hb, hr, hml, hown, hts, hX, hbl, hlocks, hgv⟩ := C0
  have hts := fun w h => hts w (wsL_law_in w h)
  have hbA : ¬ (fun q : Nat => s.heap.size ≤ q) b := Nat.not_le.mpr hbl
  intro ls H locs hl hP hD hS
  unfold f_law_11 at h
  refine lv_aload_n hx hb dL_law_567 rfl (lv_at hl 1 rfl) ?_
  refine lv_aload_n hx hb dL_law_568 rfl (lv_at hl 0 rfl) ?_
  refine lv_iload_n hx hb dL_law_569 rfl (lv_at hl 3 rfl) ?_
  refine lv_iconst (v := 1) hx hb dL_law_570 (by decide) ?_
  refine lv_iadd hx hb dL_law_571 ?_
  obtain ⟨c1, h⟩ := gd_s h
  refine va_sld hx hb hX hbl hbA hS (ix_in c1) dL_law_572 ?_
  refine lv_aload_n hx hb dL_law_573 rfl (lv_at hl 0 rfl) ?_
  refine lv_iload_n hx hb dL_law_574 rfl (lv_at hl 3 rfl) ?_
  refine lv_iconst (v := 2) hx hb dL_law_575 (by decide) ?_
  refine lv_iadd hx hb dL_law_576 ?_
  obtain ⟨c2, h⟩ := gd_s h
  refine va_sld hx hb hX hbl hbA hS (ix_in c2) dL_law_577 ?_
  refine lv_aload_n hx hb dL_law_578 rfl (lv_at hl 0 rfl) ?_
  refine lv_iload_n hx hb dL_law_579 rfl (lv_at hl 3 rfl) ?_
  refine lv_iconst (v := 3) hx hb dL_law_580 (by decide) ?_
  refine lv_iadd hx hb dL_law_581 ?_
  obtain ⟨c3, h⟩ := gd_s h
  refine va_sld hx hb hX hbl hbA hS (ix_in c3) dL_law_582 ?_
  obtain ⟨x4, h5, h⟩ := bd_s h
  refine cM_V (As := [.int (xs ((y3 + 1) : Int32).toNatClampNeg), .int (xs ((y3 + 2) : Int32).toNatClampNeg), .int (xs ((y3 + 3) : Int32).toNatClampNeg)]) (rest := []) (n := 3) (ov := (some (.int x4.1))) (wc := rcW k a R) (wc' := rcW k a x4.2) (w1 := rcW k a x4.2 ++ (modelW k b2 M)) hx hb hml hown hts hK hN hl.1 hP hD hS (Sp.lft (rc_ad k a _) (rc_ad k a _)) (c_X4_border l D k a R (xs ((y3 + 1) : Int32).toNatClampNeg) (xs ((y3 + 2) : Int32).toNatClampNeg) (xs ((y3 + 3) : Int32).toNatClampNeg) x4 h5) gL_law_X4_border rfl (by decide +kernel) ⟨⟨rfl, rfl⟩, Nat.le_of_ble_eq_true rfl, Nat.le_of_ble_eq_true rfl⟩ 0 4 rfl rfl rfl rfl rfl (Nat.le_of_ble_eq_true rfl) dL_law_583 ⟨Nat.le_of_ble_eq_true rfl, Nat.le_of_ble_eq_true rfl⟩ (fun H locs hP hD hS => ?_)
  show W p l e room_1 s m #[Value.ref b] below meth c H locs 81 8057 Q (F0 m 586 ls [.int x4.1])
  refine lv_aload_n hx hb dL_law_586 rfl (lv_at hl 2 rfl) ?_
  refine lv_aload_n hx hb dL_law_587 rfl (lv_at hl 0 rfl) ?_
  refine lv_iload_n hx hb dL_law_588 rfl (lv_at hl 3 rfl) ?_
  refine lv_iconst (v := 1) hx hb dL_law_589 (by decide) ?_
  refine lv_iadd hx hb dL_law_590 ?_
  obtain ⟨c6, h⟩ := gd_s h
  refine va_sld hx hb hX hbl hbA hS (ix_in c6) dL_law_591 ?_
  refine lv_aload_n hx hb dL_law_592 rfl (lv_at hl 0 rfl) ?_
  refine lv_iload_n hx hb dL_law_593 rfl (lv_at hl 3 rfl) ?_
  refine lv_iconst (v := 2) hx hb dL_law_594 (by decide) ?_
  refine lv_iadd hx hb dL_law_595 ?_
  obtain ⟨c7, h⟩ := gd_s h
  refine va_sld hx hb hX hbl hbA hS (ix_in c7) dL_law_596 ?_
  refine lv_aload_n hx hb dL_law_597 rfl (lv_at hl 0 rfl) ?_
  refine lv_iload_n hx hb dL_law_598 rfl (lv_at hl 3 rfl) ?_
  refine lv_iconst (v := 3) hx hb dL_law_599 (by decide) ?_
  refine lv_iadd hx hb dL_law_600 ?_
  obtain ⟨c8, h⟩ := gd_s h
  refine va_sld hx hb hX hbl hbA hS (ix_in c8) dL_law_601 ?_
  obtain ⟨x9, h10, h⟩ := bd_s h
  refine cM_V (As := [.int (xs ((y3 + 1) : Int32).toNatClampNeg), .int (xs ((y3 + 2) : Int32).toNatClampNeg), .int (xs ((y3 + 3) : Int32).toNatClampNeg)]) (rest := [.int x4.1]) (n := 3) (ov := (some (.int x9.1))) (wc := modelW k b2 M) (wc' := modelW k b2 x9.2) (w1 := rcW k a x4.2 ++ (modelW k b2 x9.2)) hx hb hml hown hts hK hN hl.1 hP hD hS (Sp.rgt (md_ad k b2 _) (md_ad k b2 _)) (c_X5_border l D k b2 M (xs ((y3 + 1) : Int32).toNatClampNeg) (xs ((y3 + 2) : Int32).toNatClampNeg) (xs ((y3 + 3) : Int32).toNatClampNeg) x9 h10) gL_law_X5_border rfl (by decide +kernel) ⟨⟨rfl, rfl⟩, Nat.le_of_ble_eq_true rfl, Nat.le_of_ble_eq_true rfl⟩ 0 5 rfl rfl rfl rfl rfl (Nat.le_of_ble_eq_true rfl) dL_law_602 ⟨Nat.le_of_ble_eq_true rfl, Nat.le_of_ble_eq_true rfl⟩ (fun H locs hP hD hS => ?_)
  show W p l e room_1 s m #[Value.ref b] below meth c H locs 81 8057 Q (F0 m 605 ls [.int x9.1, .int x4.1])
  refine lv_icmp_eq (tgt := 986) hx hb dL_law_605 (by decide) (fun c11 => ?_) (fun c11 => ?_)
  · have h := if_t h c11
    obtain rfl := Option.some.inj h
    exact K ls H locs hl hP hD hS
  · have h := if_f h c11
    refine lv_iconst (v := 0) hx hb dL_law_608 (by decide) ?_
    cases h
