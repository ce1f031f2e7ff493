set_option maxHeartbeats 4000000 in
set_option maxRecDepth 100000 in
theorem law_loop {p : Program} {l : Launch} {e : Env} {s : State} {m : MethodId} {below : List Frame} {meth : Method} {c : Code} {Q : State → Prop} {b L : Nat} {xs : Nat → Int32} (C0 : lw_At p s m meth c b L xs) {D : va_G} {k : Nat → ClassId} {a b2 : Nat → Nat} (hK : va_K D vwCl (ty5 k) s) (hN : NN s) (hQ : ∀ (ls : Array Slot) (H : Heap) (locs : List Loc), va_S (fun q : Nat => s.heap.size ≤ q) s.heap H locs → W p l e room_1 s m #[Value.ref b] below meth c H locs 81 8057 Q (F0 m 992 ls [])) (z : Int32 × RcV × ModelV) (h : lp (f_law_L xs L) fu z = some ()) : ∀ (ls : Array Slot) (H : Heap) (locs : List Loc), lv_has ls 4 [(0, .ref b), (1, .ref (a 0)), (2, .ref (b2 0)), (3, .int z.1)] → va_P D vwCl (rcW k a z.2.1 ++ modelW k b2 z.2.2) H → va_D (fun q : Nat => s.heap.size ≤ q) (rcW k a z.2.1 ++ modelW k b2 z.2.2) → va_S (fun q : Nat => s.heap.size ≤ q) s.heap H locs → W p l e room_1 s m #[Value.ref b] below meth c H locs 81 8057 Q (F0 m 18 ls []) := by
  have C1 := C0
  obtain ⟨hx, hb, hr, hml, hown, hts, hX, hbl, hlocks, hgv⟩ := C0
  have hbA : ¬ (fun q : Nat => s.heap.size ≤ q) b := Nat.not_le.mpr hbl
  refine lp_W (P := fun z => ∀ (ls : Array Slot) (H : Heap) (locs : List Loc), lv_has ls 4 [(0, .ref b), (1, .ref (a 0)), (2, .ref (b2 0)), (3, .int z.1)] → va_P D vwCl (rcW k a z.2.1 ++ modelW k b2 z.2.2) H → va_D (fun q : Nat => s.heap.size ≤ q) (rcW k a z.2.1 ++ modelW k b2 z.2.2) → va_S (fun q : Nat => s.heap.size ≤ q) s.heap H locs → W p l e room_1 s m #[Value.ref b] below meth c H locs 81 8057 Q (F0 m 18 ls [])) (E := fun _ => True) (fun z xx hB kI _ => ?_) _ _ _ h trivial
  intro ls H locs hl hP hD hS
  unfold f_law_L at hB
  refine lv_iload_n hx hb dL_law_18 rfl (lv_at hl 3 rfl) ?_
  refine lv_aload_n hx hb dL_law_19 rfl (lv_at hl 0 rfl) ?_
  refine va_slen hx hb hX hbl hbA hS dL_law_20 ?_
  refine lv_iconst (v := 5) hx hb dL_law_21 (by decide) ?_
  refine lv_isub hx hb dL_law_22 ?_
  refine lv_icmp_gt (tgt := 992) hx hb dL_law_23 (by decide) (fun c1 => hQ ls H locs hS) (fun c1 => ?_)
  have hB := if_f hB c1
  obtain ⟨c2, hB⟩ := gd_s hB
  refine lv_aload_n hx hb dL_law_26 rfl (lv_at hl 0 rfl) ?_
  refine lv_iload_n hx hb dL_law_27 rfl (lv_at hl 3 rfl) ?_
  refine va_sld hx hb hX hbl hbA hS (ix_in c2) dL_law_28 ?_
  refine lv_bipush (v := 31) hx hb dL_law_29 (by decide) ?_
  refine lv_iand hx hb dL_law_31 ?_
  have tail : ∀ (R : RcV) (M : ModelV), xx = .inl ((z.1 + 5), R, M) → ∀ (ls : Array Slot) (H : Heap) (locs : List Loc), lv_has ls 4 [(0, .ref b), (1, .ref (a 0)), (2, .ref (b2 0)), (3, .int z.1)] → va_P D vwCl (rcW k a R ++ modelW k b2 M) H → va_D (fun q : Nat => s.heap.size ≤ q) (rcW k a R ++ modelW k b2 M) → va_S (fun q : Nat => s.heap.size ≤ q) s.heap H locs → W p l e room_1 s m #[Value.ref b] below meth c H locs 81 8057 Q (F0 m 986 ls []) := by
    intro R M hxx ls H locs hl hP hD hS
    refine lv_iinc (v := (z.1 + 5)) (lv' := [(3, .int (z.1 + 5)), (0, .ref b), (1, .ref (a 0)), (2, .ref (b2 0))]) hx hb dL_law_986 hl (k := 3) rfl rfl (by decide) rfl (fun ls hl => ?_)
    refine lv_goto (tgt := 18) hx hb dL_law_989 (by decide) ?_
    exact kI _ hxx ls H locs (lv_sub hl [1, 2, 3, 0] rfl) hP hD hS
  generalize (xs z.1.toNatClampNeg &&& 31) = o at hB ⊢
  by_cases e0 : o = 0
  · have hB := if_t hB e0
    obtain ⟨x, h1, hB⟩ := bd_s hB
    refine lv_tableIn (tgt := 144) hx hb dL_law_32 (by rw [e0]; decide) (by rw [e0]; decide) (by rw [e0]; rfl) (by decide) ?_
    exact law_0 C1 hK hN _ _ _ x h1 (tail x.1 x.2 (Option.some.inj hB).symm) ls H locs hl hP hD hS
  have hB := if_f hB e0
  by_cases e1 : o = 1
  · have hB := if_t hB e1
    obtain ⟨x, h1, hB⟩ := bd_s hB
    refine lv_tableIn (tgt := 187) hx hb dL_law_32 (by rw [e1]; decide) (by rw [e1]; decide) (by rw [e1]; rfl) (by decide) ?_
    exact law_1 C1 hK hN _ _ _ x h1 (tail x.1 x.2 (Option.some.inj hB).symm) ls H locs hl hP hD hS
  have hB := if_f hB e1
  by_cases e2 : o = 2
  · have hB := if_t hB e2
    obtain ⟨x, h1, hB⟩ := bd_s hB
    refine lv_tableIn (tgt := 220) hx hb dL_law_32 (by rw [e2]; decide) (by rw [e2]; decide) (by rw [e2]; rfl) (by decide) ?_
    exact law_2 C1 hK hN _ _ _ x h1 (tail x.1 x.2 (Option.some.inj hB).symm) ls H locs hl hP hD hS
  have hB := if_f hB e2
  by_cases e3 : o = 3
  · have hB := if_t hB e3
    obtain ⟨x, h1, hB⟩ := bd_s hB
    refine lv_tableIn (tgt := 263) hx hb dL_law_32 (by rw [e3]; decide) (by rw [e3]; decide) (by rw [e3]; rfl) (by decide) ?_
    exact law_3 C1 hK hN _ _ _ x h1 (tail x.1 x.2 (Option.some.inj hB).symm) ls H locs hl hP hD hS
  have hB := if_f hB e3
  by_cases e4 : o = 4
  · have hB := if_t hB e4
    obtain ⟨x, h1, hB⟩ := bd_s hB
    refine lv_tableIn (tgt := 296) hx hb dL_law_32 (by rw [e4]; decide) (by rw [e4]; decide) (by rw [e4]; rfl) (by decide) ?_
    exact law_4 C1 hK hN _ _ _ x h1 (tail x.1 x.2 (Option.some.inj hB).symm) ls H locs hl hP hD hS
  have hB := if_f hB e4
  by_cases e5 : o = 5
  · have hB := if_t hB e5
    obtain ⟨x, h1, hB⟩ := bd_s hB
    refine lv_tableIn (tgt := 349) hx hb dL_law_32 (by rw [e5]; decide) (by rw [e5]; decide) (by rw [e5]; rfl) (by decide) ?_
    exact law_5 C1 hK hN _ _ _ x h1 (tail x.1 x.2 (Option.some.inj hB).symm) ls H locs hl hP hD hS
  have hB := if_f hB e5
  by_cases e6 : o = 6
  · have hB := if_t hB e6
    obtain ⟨x, h1, hB⟩ := bd_s hB
    refine lv_tableIn (tgt := 392) hx hb dL_law_32 (by rw [e6]; decide) (by rw [e6]; decide) (by rw [e6]; rfl) (by decide) ?_
    exact law_6 C1 hK hN _ _ _ x h1 (tail x.1 x.2 (Option.some.inj hB).symm) ls H locs hl hP hD hS
  have hB := if_f hB e6
  by_cases e7 : o = 7
  · have hB := if_t hB e7
    obtain ⟨x, h1, hB⟩ := bd_s hB
    refine lv_tableIn (tgt := 425) hx hb dL_law_32 (by rw [e7]; decide) (by rw [e7]; decide) (by rw [e7]; rfl) (by decide) ?_
    exact law_7 C1 hK hN _ _ _ x h1 (tail x.1 x.2 (Option.some.inj hB).symm) ls H locs hl hP hD hS
  have hB := if_f hB e7
  by_cases e8 : o = 8
  · have hB := if_t hB e8
    obtain ⟨x, h1, hB⟩ := bd_s hB
    refine lv_tableIn (tgt := 458) hx hb dL_law_32 (by rw [e8]; decide) (by rw [e8]; decide) (by rw [e8]; rfl) (by decide) ?_
    exact law_8 C1 hK hN _ _ _ x h1 (tail x.1 x.2 (Option.some.inj hB).symm) ls H locs hl hP hD hS
  have hB := if_f hB e8
  by_cases e9 : o = 9
  · have hB := if_t hB e9
    obtain ⟨x, h1, hB⟩ := bd_s hB
    refine lv_tableIn (tgt := 481) hx hb dL_law_32 (by rw [e9]; decide) (by rw [e9]; decide) (by rw [e9]; rfl) (by decide) ?_
    exact law_9 C1 hK hN _ _ _ x h1 (tail x.1 x.2 (Option.some.inj hB).symm) ls H locs hl hP hD hS
  have hB := if_f hB e9
  by_cases e10 : o = 10
  · have hB := if_t hB e10
    obtain ⟨x, h1, hB⟩ := bd_s hB
    refine lv_tableIn (tgt := 524) hx hb dL_law_32 (by rw [e10]; decide) (by rw [e10]; decide) (by rw [e10]; rfl) (by decide) ?_
    exact law_10 C1 hK hN _ _ _ x h1 (tail x.1 x.2 (Option.some.inj hB).symm) ls H locs hl hP hD hS
  have hB := if_f hB e10
  by_cases e11 : o = 11
  · have hB := if_t hB e11
    obtain ⟨x, h1, hB⟩ := bd_s hB
    refine lv_tableIn (tgt := 567) hx hb dL_law_32 (by rw [e11]; decide) (by rw [e11]; decide) (by rw [e11]; rfl) (by decide) ?_
    exact law_11 C1 hK hN _ _ _ x h1 (tail x.1 x.2 (Option.some.inj hB).symm) ls H locs hl hP hD hS
  have hB := if_f hB e11
  by_cases e12 : o = 12
  · have hB := if_t hB e12
    obtain ⟨x, h1, hB⟩ := bd_s hB
    refine lv_tableIn (tgt := 610) hx hb dL_law_32 (by rw [e12]; decide) (by rw [e12]; decide) (by rw [e12]; rfl) (by decide) ?_
    exact law_12 C1 hK hN _ _ _ x h1 (tail x.1 x.2 (Option.some.inj hB).symm) ls H locs hl hP hD hS
  have hB := if_f hB e12
  by_cases e13 : o = 13
  · have hB := if_t hB e13
    obtain ⟨x, h1, hB⟩ := bd_s hB
    refine lv_tableIn (tgt := 643) hx hb dL_law_32 (by rw [e13]; decide) (by rw [e13]; decide) (by rw [e13]; rfl) (by decide) ?_
    exact law_13 C1 hK hN _ _ _ x h1 (tail x.1 x.2 (Option.some.inj hB).symm) ls H locs hl hP hD hS
  have hB := if_f hB e13
  by_cases e14 : o = 14
  · have hB := if_t hB e14
    obtain ⟨x, h1, hB⟩ := bd_s hB
    refine lv_tableIn (tgt := 676) hx hb dL_law_32 (by rw [e14]; decide) (by rw [e14]; decide) (by rw [e14]; rfl) (by decide) ?_
    exact law_14 C1 hK hN _ _ _ x h1 (tail x.1 x.2 (Option.some.inj hB).symm) ls H locs hl hP hD hS
  have hB := if_f hB e14
  by_cases e15 : o = 15
  · have hB := if_t hB e15
    obtain ⟨x, h1, hB⟩ := bd_s hB
    refine lv_tableIn (tgt := 719) hx hb dL_law_32 (by rw [e15]; decide) (by rw [e15]; decide) (by rw [e15]; rfl) (by decide) ?_
    exact law_15 C1 hK hN _ _ _ x h1 (tail x.1 x.2 (Option.some.inj hB).symm) ls H locs hl hP hD hS
  have hB := if_f hB e15
  by_cases e16 : o = 16
  · have hB := if_t hB e16
    obtain ⟨x, h1, hB⟩ := bd_s hB
    refine lv_tableIn (tgt := 742) hx hb dL_law_32 (by rw [e16]; decide) (by rw [e16]; decide) (by rw [e16]; rfl) (by decide) ?_
    exact law_16 C1 hK hN _ _ _ x h1 (tail x.1 x.2 (Option.some.inj hB).symm) ls H locs hl hP hD hS
  have hB := if_f hB e16
  by_cases e17 : o = 17
  · have hB := if_t hB e17
    obtain ⟨x, h1, hB⟩ := bd_s hB
    refine lv_tableIn (tgt := 775) hx hb dL_law_32 (by rw [e17]; decide) (by rw [e17]; decide) (by rw [e17]; rfl) (by decide) ?_
    exact law_17 C1 hK hN _ _ _ x h1 (tail x.1 x.2 (Option.some.inj hB).symm) ls H locs hl hP hD hS
  have hB := if_f hB e17
  by_cases e18 : o = 18
  · have hB := if_t hB e18
    obtain ⟨x, h1, hB⟩ := bd_s hB
    refine lv_tableIn (tgt := 818) hx hb dL_law_32 (by rw [e18]; decide) (by rw [e18]; decide) (by rw [e18]; rfl) (by decide) ?_
    exact law_18 C1 hK hN _ _ _ x h1 (tail x.1 x.2 (Option.some.inj hB).symm) ls H locs hl hP hD hS
  have hB := if_f hB e18
  by_cases e19 : o = 19
  · have hB := if_t hB e19
    obtain ⟨x, h1, hB⟩ := bd_s hB
    refine lv_tableIn (tgt := 861) hx hb dL_law_32 (by rw [e19]; decide) (by rw [e19]; decide) (by rw [e19]; rfl) (by decide) ?_
    exact law_19 C1 hK hN _ _ _ x h1 (tail x.1 x.2 (Option.some.inj hB).symm) ls H locs hl hP hD hS
  have hB := if_f hB e19
  by_cases e20 : o = 20
  · have hB := if_t hB e20
    obtain ⟨x, h1, hB⟩ := bd_s hB
    refine lv_tableIn (tgt := 894) hx hb dL_law_32 (by rw [e20]; decide) (by rw [e20]; decide) (by rw [e20]; rfl) (by decide) ?_
    exact law_20 C1 hK hN _ _ _ x h1 (tail x.1 x.2 (Option.some.inj hB).symm) ls H locs hl hP hD hS
  have hB := if_f hB e20
  by_cases e21 : o = 21
  · have hB := if_t hB e21
    obtain ⟨x, h1, hB⟩ := bd_s hB
    refine lv_tableIn (tgt := 917) hx hb dL_law_32 (by rw [e21]; decide) (by rw [e21]; decide) (by rw [e21]; rfl) (by decide) ?_
    exact law_21 C1 hK hN _ _ _ x h1 (tail x.1 x.2 (Option.some.inj hB).symm) ls H locs hl hP hD hS
  have hB := if_f hB e21
  by_cases e22 : o = 22
  · have hB := if_t hB e22
    obtain ⟨x, h1, hB⟩ := bd_s hB
    refine lv_tableIn (tgt := 940) hx hb dL_law_32 (by rw [e22]; decide) (by rw [e22]; decide) (by rw [e22]; rfl) (by decide) ?_
    exact law_22 C1 hK hN _ _ _ x h1 (tail x.1 x.2 (Option.some.inj hB).symm) ls H locs hl hP hD hS
  have hB := if_f hB e22
  by_cases e23 : o = 23
  · have hB := if_t hB e23
    obtain ⟨x, h1, hB⟩ := bd_s hB
    refine lv_tableIn (tgt := 963) hx hb dL_law_32 (by rw [e23]; decide) (by rw [e23]; decide) (by rw [e23]; rfl) (by decide) ?_
    exact law_23 C1 hK hN _ _ _ x h1 (tail x.1 x.2 (Option.some.inj hB).symm) ls H locs hl hP hD hS
  have hB := if_f hB e23
  refine lv_tableOut (tgt := 986) hx hb dL_law_32 (by have n0 := lv_neT e0 (k := 0) (a := 0) (by decide); have n1 := lv_neT e1 (k := 1) (a := 1) (by decide); have n2 := lv_neT e2 (k := 2) (a := 2) (by decide); have n3 := lv_neT e3 (k := 3) (a := 3) (by decide); have n4 := lv_neT e4 (k := 4) (a := 4) (by decide); have n5 := lv_neT e5 (k := 5) (a := 5) (by decide); have n6 := lv_neT e6 (k := 6) (a := 6) (by decide); have n7 := lv_neT e7 (k := 7) (a := 7) (by decide); have n8 := lv_neT e8 (k := 8) (a := 8) (by decide); have n9 := lv_neT e9 (k := 9) (a := 9) (by decide); have n10 := lv_neT e10 (k := 10) (a := 10) (by decide); have n11 := lv_neT e11 (k := 11) (a := 11) (by decide); have n12 := lv_neT e12 (k := 12) (a := 12) (by decide); have n13 := lv_neT e13 (k := 13) (a := 13) (by decide); have n14 := lv_neT e14 (k := 14) (a := 14) (by decide); have n15 := lv_neT e15 (k := 15) (a := 15) (by decide); have n16 := lv_neT e16 (k := 16) (a := 16) (by decide); have n17 := lv_neT e17 (k := 17) (a := 17) (by decide); have n18 := lv_neT e18 (k := 18) (a := 18) (by decide); have n19 := lv_neT e19 (k := 19) (a := 19) (by decide); have n20 := lv_neT e20 (k := 20) (a := 20) (by decide); have n21 := lv_neT e21 (k := 21) (a := 21) (by decide); have n22 := lv_neT e22 (k := 22) (a := 22) (by decide); have n23 := lv_neT e23 (k := 23) (a := 23) (by decide); omega) (by decide) ?_
  exact tail _ _ (Option.some.inj hB).symm ls H locs hl hP hD hS
