set_option maxHeartbeats 4000000 in
set_option maxRecDepth 100000 in
theorem law_12 {p : Program} {l : Launch} {e : Env} {s : State} {m : MethodId} {below : List Frame} {meth : Method} {c : Code} {Q : State → Prop} {b L : Nat} {xs : Nat → Int32} (C0 : lw_At p s m meth c b L xs) {D : va_G} {k : Nat → ClassId} {a b2 : Nat → Nat} (hK : va_K D vwCl (ty5 k) s) (hN : NN s) (y3 : Int32) (R : RcV) (M : ModelV) (x : RcV × ModelV) (h : f_law_12 xs L y3 R M = some x) (K : ∀ (ls : Array Slot) (H : Heap) (locs : List Loc), lv_has ls 4 [(0, .ref b), (1, .ref (a 0)), (2, .ref (b2 0)), (3, .int y3)] → va_P D vwCl (rcW k a x.1 ++ modelW k b2 x.2) H → va_D (fun q : Nat => s.heap.size ≤ q) (rcW k a x.1 ++ modelW k b2 x.2) → va_S (fun q : Nat => s.heap.size ≤ q) s.heap H locs → W p l e room_1 s m #[Value.ref b] below meth c H locs 81 8057 Q (F0 m 986 ls [])) : ∀ (ls : Array Slot) (H : Heap) (locs : List Loc), lv_has ls 4 [(0, .ref b), (1, .ref (a 0)), (2, .ref (b2 0)), (3, .int y3)] → va_P D vwCl (rcW k a R ++ modelW k b2 M) H → va_D (fun q : Nat => s.heap.size ≤ q) (rcW k a R ++ modelW k b2 M) → va_S (fun q : Nat => s.heap.size ≤ q) s.heap H locs → W p l e room_1 s m #[Value.ref b] below meth c H locs 81 8057 Q (F0 m 610 ls []) := by
  obtain ⟨hx, hb, hr, hml, hown, hts, hX, hbl, hlocks, hgv⟩ := C0
  have hts := fun w h => hts w (wsL_law_in w h)
  have hbA : ¬ (fun q : Nat => s.heap.size ≤ q) b := Nat.not_le.mpr hbl
  intro ls H locs hl hP hD hS
  unfold f_law_12 at h
  refine lv_aload_n hx hb dL_law_610 rfl (lv_at hl 1 rfl) ?_
  refine lv_aload_n hx hb dL_law_611 rfl (lv_at hl 0 rfl) ?_
  refine lv_iload_n hx hb dL_law_612 rfl (lv_at hl 3 rfl) ?_
  refine lv_iconst (v := 1) hx hb dL_law_613 (by decide) ?_
  refine lv_iadd hx hb dL_law_614 ?_
  obtain ⟨c1, h⟩ := gd_s h
  refine va_sld hx hb hX hbl hbA hS (ix_in c1) dL_law_615 ?_
  refine lv_aload_n hx hb dL_law_616 rfl (lv_at hl 0 rfl) ?_
  refine lv_iload_n hx hb dL_law_617 rfl (lv_at hl 3 rfl) ?_
  refine lv_iconst (v := 2) hx hb dL_law_618 (by decide) ?_
  refine lv_iadd hx hb dL_law_619 ?_
  obtain ⟨c2, h⟩ := gd_s h
  refine va_sld hx hb hX hbl hbA hS (ix_in c2) dL_law_620 ?_
  obtain ⟨x3, h4, h⟩ := bd_s h
  refine cM_V (As := [.int (xs ((y3 + 1) : Int32).toNatClampNeg), .int (xs ((y3 + 2) : Int32).toNatClampNeg)]) (rest := []) (n := 2) (ov := (some (.int x3.1))) (wc := rcW k a R) (wc' := rcW k a x3.2) (w1 := rcW k a x3.2 ++ (modelW k b2 M)) hx hb hml hown hts hK hN hl.1 hP hD hS (Sp.lft (rc_ad k a _) (rc_ad k a _)) (c_X4_neighbours l D k a R (xs ((y3 + 1) : Int32).toNatClampNeg) (xs ((y3 + 2) : Int32).toNatClampNeg) x3 h4) gL_law_X4_neighbours rfl (by decide +kernel) ⟨⟨rfl, rfl⟩, Nat.le_of_ble_eq_true rfl, Nat.le_of_ble_eq_true rfl⟩ 0 4 rfl rfl rfl rfl rfl (Nat.le_of_ble_eq_true rfl) dL_law_621 ⟨Nat.le_of_ble_eq_true rfl, Nat.le_of_ble_eq_true rfl⟩ (fun H locs hP hD hS => ?_)
  show W p l e room_1 s m #[Value.ref b] below meth c H locs 81 8057 Q (F0 m 624 ls [.int x3.1])
  refine lv_aload_n hx hb dL_law_624 rfl (lv_at hl 2 rfl) ?_
  refine lv_aload_n hx hb dL_law_625 rfl (lv_at hl 0 rfl) ?_
  refine lv_iload_n hx hb dL_law_626 rfl (lv_at hl 3 rfl) ?_
  refine lv_iconst (v := 1) hx hb dL_law_627 (by decide) ?_
  refine lv_iadd hx hb dL_law_628 ?_
  obtain ⟨c5, h⟩ := gd_s h
  refine va_sld hx hb hX hbl hbA hS (ix_in c5) dL_law_629 ?_
  refine lv_aload_n hx hb dL_law_630 rfl (lv_at hl 0 rfl) ?_
  refine lv_iload_n hx hb dL_law_631 rfl (lv_at hl 3 rfl) ?_
  refine lv_iconst (v := 2) hx hb dL_law_632 (by decide) ?_
  refine lv_iadd hx hb dL_law_633 ?_
  obtain ⟨c6, h⟩ := gd_s h
  refine va_sld hx hb hX hbl hbA hS (ix_in c6) dL_law_634 ?_
  obtain ⟨x7, h8, h⟩ := bd_s h
  refine cM_V (As := [.int (xs ((y3 + 1) : Int32).toNatClampNeg), .int (xs ((y3 + 2) : Int32).toNatClampNeg)]) (rest := [.int x3.1]) (n := 2) (ov := (some (.int x7.1))) (wc := modelW k b2 M) (wc' := modelW k b2 x7.2) (w1 := rcW k a x3.2 ++ (modelW k b2 x7.2)) hx hb hml hown hts hK hN hl.1 hP hD hS (Sp.rgt (md_ad k b2 _) (md_ad k b2 _)) (c_X5_neighbours l D k b2 M (xs ((y3 + 1) : Int32).toNatClampNeg) (xs ((y3 + 2) : Int32).toNatClampNeg) x7 h8) gL_law_X5_neighbours rfl (by decide +kernel) ⟨⟨rfl, rfl⟩, Nat.le_of_ble_eq_true rfl, Nat.le_of_ble_eq_true rfl⟩ 0 5 rfl rfl rfl rfl rfl (Nat.le_of_ble_eq_true rfl) dL_law_635 ⟨Nat.le_of_ble_eq_true rfl, Nat.le_of_ble_eq_true rfl⟩ (fun H locs hP hD hS => ?_)
  show W p l e room_1 s m #[Value.ref b] below meth c H locs 81 8057 Q (F0 m 638 ls [.int x7.1, .int x3.1])
  refine lv_icmp_eq (tgt := 986) hx hb dL_law_638 (by decide) (fun c9 => ?_) (fun c9 => ?_)
  · have h := if_t h c9
    obtain rfl := Option.some.inj h
    exact K ls H locs hl hP hD hS
  · have h := if_f h c9
    refine lv_iconst (v := 0) hx hb dL_law_641 (by decide) ?_
    cases h
set_option maxHeartbeats 4000000 in
set_option maxRecDepth 100000 in
theorem law_13 {p : Program} {l : Launch} {e : Env} {s : State} {m : MethodId} {below : List Frame} {meth : Method} {c : Code} {Q : State → Prop} {b L : Nat} {xs : Nat → Int32} (C0 : lw_At p s m meth c b L xs) {D : va_G} {k : Nat → ClassId} {a b2 : Nat → Nat} (hK : va_K D vwCl (ty5 k) s) (hN : NN s) (y3 : Int32) (R : RcV) (M : ModelV) (x : RcV × ModelV) (h : f_law_13 xs L y3 R M = some x) (K : ∀ (ls : Array Slot) (H : Heap) (locs : List Loc), lv_has ls 4 [(0, .ref b), (1, .ref (a 0)), (2, .ref (b2 0)), (3, .int y3)] → va_P D vwCl (rcW k a x.1 ++ modelW k b2 x.2) H → va_D (fun q : Nat => s.heap.size ≤ q) (rcW k a x.1 ++ modelW k b2 x.2) → va_S (fun q : Nat => s.heap.size ≤ q) s.heap H locs → W p l e room_1 s m #[Value.ref b] below meth c H locs 81 8057 Q (F0 m 986 ls [])) : ∀ (ls : Array Slot) (H : Heap) (locs : List Loc), lv_has ls 4 [(0, .ref b), (1, .ref (a 0)), (2, .ref (b2 0)), (3, .int y3)] → va_P D vwCl (rcW k a R ++ modelW k b2 M) H → va_D (fun q : Nat => s.heap.size ≤ q) (rcW k a R ++ modelW k b2 M) → va_S (fun q : Nat => s.heap.size ≤ q) s.heap H locs → W p l e room_1 s m #[Value.ref b] below meth c H locs 81 8057 Q (F0 m 643 ls []) := by
  obtain ⟨hx, hb, hr, hml, hown, hts, hX, hbl, hlocks, hgv⟩ := C0
  have hts := fun w h => hts w (wsL_law_in w h)
  have hbA : ¬ (fun q : Nat => s.heap.size ≤ q) b := Nat.not_le.mpr hbl
  intro ls H locs hl hP hD hS
  unfold f_law_13 at h
  refine lv_aload_n hx hb dL_law_643 rfl (lv_at hl 1 rfl) ?_
  refine lv_aload_n hx hb dL_law_644 rfl (lv_at hl 0 rfl) ?_
  refine lv_iload_n hx hb dL_law_645 rfl (lv_at hl 3 rfl) ?_
  refine lv_iconst (v := 1) hx hb dL_law_646 (by decide) ?_
  refine lv_iadd hx hb dL_law_647 ?_
  obtain ⟨c1, h⟩ := gd_s h
  refine va_sld hx hb hX hbl hbA hS (ix_in c1) dL_law_648 ?_
  refine lv_aload_n hx hb dL_law_649 rfl (lv_at hl 0 rfl) ?_
  refine lv_iload_n hx hb dL_law_650 rfl (lv_at hl 3 rfl) ?_
  refine lv_iconst (v := 2) hx hb dL_law_651 (by decide) ?_
  refine lv_iadd hx hb dL_law_652 ?_
  obtain ⟨c2, h⟩ := gd_s h
  refine va_sld hx hb hX hbl hbA hS (ix_in c2) dL_law_653 ?_
  obtain ⟨x3, h4, h⟩ := bd_s h
  refine cM_V (As := [.int (xs ((y3 + 1) : Int32).toNatClampNeg), .int (xs ((y3 + 2) : Int32).toNatClampNeg)]) (rest := []) (n := 2) (ov := (some (.int x3.1))) (wc := rcW k a R) (wc' := rcW k a x3.2) (w1 := rcW k a x3.2 ++ (modelW k b2 M)) hx hb hml hown hts hK hN hl.1 hP hD hS (Sp.lft (rc_ad k a _) (rc_ad k a _)) (c_X4_mean l D k a R (xs ((y3 + 1) : Int32).toNatClampNeg) (xs ((y3 + 2) : Int32).toNatClampNeg) x3 h4) gL_law_X4_mean rfl (by decide +kernel) ⟨⟨rfl, rfl⟩, Nat.le_of_ble_eq_true rfl, Nat.le_of_ble_eq_true rfl⟩ 0 4 rfl rfl rfl rfl rfl (Nat.le_of_ble_eq_true rfl) dL_law_654 ⟨Nat.le_of_ble_eq_true rfl, Nat.le_of_ble_eq_true rfl⟩ (fun H locs hP hD hS => ?_)
  show W p l e room_1 s m #[Value.ref b] below meth c H locs 81 8057 Q (F0 m 657 ls [.int x3.1])
  refine lv_aload_n hx hb dL_law_657 rfl (lv_at hl 2 rfl) ?_
  refine lv_aload_n hx hb dL_law_658 rfl (lv_at hl 0 rfl) ?_
  refine lv_iload_n hx hb dL_law_659 rfl (lv_at hl 3 rfl) ?_
  refine lv_iconst (v := 1) hx hb dL_law_660 (by decide) ?_
  refine lv_iadd hx hb dL_law_661 ?_
  obtain ⟨c5, h⟩ := gd_s h
  refine va_sld hx hb hX hbl hbA hS (ix_in c5) dL_law_662 ?_
  refine lv_aload_n hx hb dL_law_663 rfl (lv_at hl 0 rfl) ?_
  refine lv_iload_n hx hb dL_law_664 rfl (lv_at hl 3 rfl) ?_
  refine lv_iconst (v := 2) hx hb dL_law_665 (by decide) ?_
  refine lv_iadd hx hb dL_law_666 ?_
  obtain ⟨c6, h⟩ := gd_s h
  refine va_sld hx hb hX hbl hbA hS (ix_in c6) dL_law_667 ?_
  obtain ⟨x7, h8, h⟩ := bd_s h
  refine cM_V (As := [.int (xs ((y3 + 1) : Int32).toNatClampNeg), .int (xs ((y3 + 2) : Int32).toNatClampNeg)]) (rest := [.int x3.1]) (n := 2) (ov := (some (.int x7.1))) (wc := modelW k b2 M) (wc' := modelW k b2 x7.2) (w1 := rcW k a x3.2 ++ (modelW k b2 x7.2)) hx hb hml hown hts hK hN hl.1 hP hD hS (Sp.rgt (md_ad k b2 _) (md_ad k b2 _)) (c_X5_mean l D k b2 M (xs ((y3 + 1) : Int32).toNatClampNeg) (xs ((y3 + 2) : Int32).toNatClampNeg) x7 h8) gL_law_X5_mean rfl (by decide +kernel) ⟨⟨rfl, rfl⟩, Nat.le_of_ble_eq_true rfl, Nat.le_of_ble_eq_true rfl⟩ 0 5 rfl rfl rfl rfl rfl (Nat.le_of_ble_eq_true rfl) dL_law_668 ⟨Nat.le_of_ble_eq_true rfl, Nat.le_of_ble_eq_true rfl⟩ (fun H locs hP hD hS => ?_)
  show W p l e room_1 s m #[Value.ref b] below meth c H locs 81 8057 Q (F0 m 671 ls [.int x7.1, .int x3.1])
  refine lv_icmp_eq (tgt := 986) hx hb dL_law_671 (by decide) (fun c9 => ?_) (fun c9 => ?_)
  · have h := if_t h c9
    obtain rfl := Option.some.inj h
    exact K ls H locs hl hP hD hS
  · have h := if_f h c9
    refine lv_iconst (v := 0) hx hb dL_law_674 (by decide) ?_
    cases h
set_option maxHeartbeats 4000000 in
set_option maxRecDepth 100000 in
theorem law_14 {p : Program} {l : Launch} {e : Env} {s : State} {m : MethodId} {below : List Frame} {meth : Method} {c : Code} {Q : State → Prop} {b L : Nat} {xs : Nat → Int32} (C0 : lw_At p s m meth c b L xs) {D : va_G} {k : Nat → ClassId} {a b2 : Nat → Nat} (hK : va_K D vwCl (ty5 k) s) (hN : NN s) (y3 : Int32) (R : RcV) (M : ModelV) (x : RcV × ModelV) (h : f_law_14 xs L y3 R M = some x) (K : ∀ (ls : Array Slot) (H : Heap) (locs : List Loc), lv_has ls 4 [(0, .ref b), (1, .ref (a 0)), (2, .ref (b2 0)), (3, .int y3)] → va_P D vwCl (rcW k a x.1 ++ modelW k b2 x.2) H → va_D (fun q : Nat => s.heap.size ≤ q) (rcW k a x.1 ++ modelW k b2 x.2) → va_S (fun q : Nat => s.heap.size ≤ q) s.heap H locs → W p l e room_1 s m #[Value.ref b] below meth c H locs 81 8057 Q (F0 m 986 ls [])) : ∀ (ls : Array Slot) (H : Heap) (locs : List Loc), lv_has ls 4 [(0, .ref b), (1, .ref (a 0)), (2, .ref (b2 0)), (3, .int y3)] → va_P D vwCl (rcW k a R ++ modelW k b2 M) H → va_D (fun q : Nat => s.heap.size ≤ q) (rcW k a R ++ modelW k b2 M) → va_S (fun q : Nat => s.heap.size ≤ q) s.heap H locs → W p l e room_1 s m #[Value.ref b] below meth c H locs 81 8057 Q (F0 m 676 ls []) := by
  obtain ⟨hx, hb, hr, hml, hown, hts, hX, hbl, hlocks, hgv⟩ := C0
  have hts := fun w h => hts w (wsL_law_in w h)
  have hbA : ¬ (fun q : Nat => s.heap.size ≤ q) b := Nat.not_le.mpr hbl
  intro ls H locs hl hP hD hS
  unfold f_law_14 at h
  refine lv_aload_n hx hb dL_law_676 rfl (lv_at hl 1 rfl) ?_
  refine lv_aload_n hx hb dL_law_677 rfl (lv_at hl 0 rfl) ?_
  refine lv_iload_n hx hb dL_law_678 rfl (lv_at hl 3 rfl) ?_
  refine lv_iconst (v := 1) hx hb dL_law_679 (by decide) ?_
  refine lv_iadd hx hb dL_law_680 ?_
  obtain ⟨c1, h⟩ := gd_s h
  refine va_sld hx hb hX hbl hbA hS (ix_in c1) dL_law_681 ?_
  refine lv_aload_n hx hb dL_law_682 rfl (lv_at hl 0 rfl) ?_
  refine lv_iload_n hx hb dL_law_683 rfl (lv_at hl 3 rfl) ?_
  refine lv_iconst (v := 2) hx hb dL_law_684 (by decide) ?_
  refine lv_iadd hx hb dL_law_685 ?_
  obtain ⟨c2, h⟩ := gd_s h
  refine va_sld hx hb hX hbl hbA hS (ix_in c2) dL_law_686 ?_
  refine lv_aload_n hx hb dL_law_687 rfl (lv_at hl 0 rfl) ?_
  refine lv_iload_n hx hb dL_law_688 rfl (lv_at hl 3 rfl) ?_
  refine lv_iconst (v := 3) hx hb dL_law_689 (by decide) ?_
  refine lv_iadd hx hb dL_law_690 ?_
  obtain ⟨c3, h⟩ := gd_s h
  refine va_sld hx hb hX hbl hbA hS (ix_in c3) dL_law_691 ?_
  obtain ⟨x4, h5, h⟩ := bd_s h
  refine cM_V (As := [.int (xs ((y3 + 1) : Int32).toNatClampNeg), .int (xs ((y3 + 2) : Int32).toNatClampNeg), .int (xs ((y3 + 3) : Int32).toNatClampNeg)]) (rest := []) (n := 3) (ov := (some (.int x4.1))) (wc := rcW k a R) (wc' := rcW k a x4.2) (w1 := rcW k a x4.2 ++ (modelW k b2 M)) hx hb hml hown hts hK hN hl.1 hP hD hS (Sp.lft (rc_ad k a _) (rc_ad k a _)) (c_X4_total l D k a R (xs ((y3 + 1) : Int32).toNatClampNeg) (xs ((y3 + 2) : Int32).toNatClampNeg) (xs ((y3 + 3) : Int32).toNatClampNeg) x4 h5) gL_law_X4_total rfl (by decide +kernel) ⟨⟨rfl, rfl⟩, Nat.le_of_ble_eq_true rfl, Nat.le_of_ble_eq_true rfl⟩ 0 4 rfl rfl rfl rfl rfl (Nat.le_of_ble_eq_true rfl) dL_law_692 ⟨Nat.le_of_ble_eq_true rfl, Nat.le_of_ble_eq_true rfl⟩ (fun H locs hP hD hS => ?_)
  show W p l e room_1 s m #[Value.ref b] below meth c H locs 81 8057 Q (F0 m 695 ls [.int x4.1])
  refine lv_aload_n hx hb dL_law_695 rfl (lv_at hl 2 rfl) ?_
  refine lv_aload_n hx hb dL_law_696 rfl (lv_at hl 0 rfl) ?_
  refine lv_iload_n hx hb dL_law_697 rfl (lv_at hl 3 rfl) ?_
  refine lv_iconst (v := 1) hx hb dL_law_698 (by decide) ?_
  refine lv_iadd hx hb dL_law_699 ?_
  obtain ⟨c6, h⟩ := gd_s h
  refine va_sld hx hb hX hbl hbA hS (ix_in c6) dL_law_700 ?_
  refine lv_aload_n hx hb dL_law_701 rfl (lv_at hl 0 rfl) ?_
  refine lv_iload_n hx hb dL_law_702 rfl (lv_at hl 3 rfl) ?_
  refine lv_iconst (v := 2) hx hb dL_law_703 (by decide) ?_
  refine lv_iadd hx hb dL_law_704 ?_
  obtain ⟨c7, h⟩ := gd_s h
  refine va_sld hx hb hX hbl hbA hS (ix_in c7) dL_law_705 ?_
  refine lv_aload_n hx hb dL_law_706 rfl (lv_at hl 0 rfl) ?_
  refine lv_iload_n hx hb dL_law_707 rfl (lv_at hl 3 rfl) ?_
  refine lv_iconst (v := 3) hx hb dL_law_708 (by decide) ?_
  refine lv_iadd hx hb dL_law_709 ?_
  obtain ⟨c8, h⟩ := gd_s h
  refine va_sld hx hb hX hbl hbA hS (ix_in c8) dL_law_710 ?_
  obtain ⟨x9, h10, h⟩ := bd_s h
  refine cM_V (As := [.int (xs ((y3 + 1) : Int32).toNatClampNeg), .int (xs ((y3 + 2) : Int32).toNatClampNeg), .int (xs ((y3 + 3) : Int32).toNatClampNeg)]) (rest := [.int x4.1]) (n := 3) (ov := (some (.int x9.1))) (wc := modelW k b2 M) (wc' := modelW k b2 x9.2) (w1 := rcW k a x4.2 ++ (modelW k b2 x9.2)) hx hb hml hown hts hK hN hl.1 hP hD hS (Sp.rgt (md_ad k b2 _) (md_ad k b2 _)) (c_X5_total l D k b2 M (xs ((y3 + 1) : Int32).toNatClampNeg) (xs ((y3 + 2) : Int32).toNatClampNeg) (xs ((y3 + 3) : Int32).toNatClampNeg) x9 h10) gL_law_X5_total rfl (by decide +kernel) ⟨⟨rfl, rfl⟩, Nat.le_of_ble_eq_true rfl, Nat.le_of_ble_eq_true rfl⟩ 0 5 rfl rfl rfl rfl rfl (Nat.le_of_ble_eq_true rfl) dL_law_711 ⟨Nat.le_of_ble_eq_true rfl, Nat.le_of_ble_eq_true rfl⟩ (fun H locs hP hD hS => ?_)
  show W p l e room_1 s m #[Value.ref b] below meth c H locs 81 8057 Q (F0 m 714 ls [.int x9.1, .int x4.1])
  refine lv_icmp_eq (tgt := 986) hx hb dL_law_714 (by decide) (fun c11 => ?_) (fun c11 => ?_)
  · have h := if_t h c11
    obtain rfl := Option.some.inj h
    exact K ls H locs hl hP hD hS
  · have h := if_f h c11
    refine lv_iconst (v := 0) hx hb dL_law_717 (by decide) ?_
    cases h
set_option maxHeartbeats 4000000 in
set_option maxRecDepth 100000 in
theorem law_15 {p : Program} {l : Launch} {e : Env} {s : State} {m : MethodId} {below : List Frame} {meth : Method} {c : Code} {Q : State → Prop} {b L : Nat} {xs : Nat → Int32} (C0 : lw_At p s m meth c b L xs) {D : va_G} {k : Nat → ClassId} {a b2 : Nat → Nat} (hK : va_K D vwCl (ty5 k) s) (hN : NN s) (y3 : Int32) (R : RcV) (M : ModelV) (x : RcV × ModelV) (h : f_law_15 xs L y3 R M = some x) (K : ∀ (ls : Array Slot) (H : Heap) (locs : List Loc), lv_has ls 4 [(0, .ref b), (1, .ref (a 0)), (2, .ref (b2 0)), (3, .int y3)] → va_P D vwCl (rcW k a x.1 ++ modelW k b2 x.2) H → va_D (fun q : Nat => s.heap.size ≤ q) (rcW k a x.1 ++ modelW k b2 x.2) → va_S (fun q : Nat => s.heap.size ≤ q) s.heap H locs → W p l e room_1 s m #[Value.ref b] below meth c H locs 81 8057 Q (F0 m 986 ls [])) : ∀ (ls : Array Slot) (H : Heap) (locs : List Loc), lv_has ls 4 [(0, .ref b), (1, .ref (a 0)), (2, .ref (b2 0)), (3, .int y3)] → va_P D vwCl (rcW k a R ++ modelW k b2 M) H → va_D (fun q : Nat => s.heap.size ≤ q) (rcW k a R ++ modelW k b2 M) → va_S (fun q : Nat => s.heap.size ≤ q) s.heap H locs → W p l e room_1 s m #[Value.ref b] below meth c H locs 81 8057 Q (F0 m 719 ls []) := by
  obtain ⟨hx, hb, hr, hml, hown, hts, hX, hbl, hlocks, hgv⟩ := C0
  have hts := fun w h => hts w (wsL_law_in w h)
  have hbA : ¬ (fun q : Nat => s.heap.size ≤ q) b := Nat.not_le.mpr hbl
  intro ls H locs hl hP hD hS
  unfold f_law_15 at h
  refine lv_aload_n hx hb dL_law_719 rfl (lv_at hl 1 rfl) ?_
  refine lv_aload_n hx hb dL_law_720 rfl (lv_at hl 0 rfl) ?_
  refine lv_iload_n hx hb dL_law_721 rfl (lv_at hl 3 rfl) ?_
  refine lv_iconst (v := 1) hx hb dL_law_722 (by decide) ?_
  refine lv_iadd hx hb dL_law_723 ?_
  obtain ⟨c1, h⟩ := gd_s h
  refine va_sld hx hb hX hbl hbA hS (ix_in c1) dL_law_724 ?_
  obtain ⟨x2, h3, h⟩ := bd_s h
  refine cM_V (As := [.int (xs ((y3 + 1) : Int32).toNatClampNeg)]) (rest := []) (n := 1) (ov := (some (.int x2.1))) (wc := rcW k a R) (wc' := rcW k a x2.2) (w1 := rcW k a x2.2 ++ (modelW k b2 M)) hx hb hml hown hts hK hN hl.1 hP hD hS (Sp.lft (rc_ad k a _) (rc_ad k a _)) (c_X4_spread l D k a R (xs ((y3 + 1) : Int32).toNatClampNeg) x2 h3) gL_law_X4_spread rfl (by decide +kernel) ⟨⟨rfl, rfl⟩, Nat.le_of_ble_eq_true rfl, Nat.le_of_ble_eq_true rfl⟩ 0 4 rfl rfl rfl rfl rfl (Nat.le_of_ble_eq_true rfl) dL_law_725 ⟨Nat.le_of_ble_eq_true rfl, Nat.le_of_ble_eq_true rfl⟩ (fun H locs hP hD hS => ?_)
  show W p l e room_1 s m #[Value.ref b] below meth c H locs 81 8057 Q (F0 m 728 ls [.int x2.1])
  refine lv_aload_n hx hb dL_law_728 rfl (lv_at hl 2 rfl) ?_
  refine lv_aload_n hx hb dL_law_729 rfl (lv_at hl 0 rfl) ?_
  refine lv_iload_n hx hb dL_law_730 rfl (lv_at hl 3 rfl) ?_
  refine lv_iconst (v := 1) hx hb dL_law_731 (by decide) ?_
  refine lv_iadd hx hb dL_law_732 ?_
  obtain ⟨c4, h⟩ := gd_s h
  refine va_sld hx hb hX hbl hbA hS (ix_in c4) dL_law_733 ?_
  obtain ⟨x5, h6, h⟩ := bd_s h
  refine cM_V (As := [.int (xs ((y3 + 1) : Int32).toNatClampNeg)]) (rest := [.int x2.1]) (n := 1) (ov := (some (.int x5.1))) (wc := modelW k b2 M) (wc' := modelW k b2 x5.2) (w1 := rcW k a x2.2 ++ (modelW k b2 x5.2)) hx hb hml hown hts hK hN hl.1 hP hD hS (Sp.rgt (md_ad k b2 _) (md_ad k b2 _)) (c_X5_spread l D k b2 M (xs ((y3 + 1) : Int32).toNatClampNeg) x5 h6) gL_law_X5_spread rfl (by decide +kernel) ⟨⟨rfl, rfl⟩, Nat.le_of_ble_eq_true rfl, Nat.le_of_ble_eq_true rfl⟩ 0 5 rfl rfl rfl rfl rfl (Nat.le_of_ble_eq_true rfl) dL_law_734 ⟨Nat.le_of_ble_eq_true rfl, Nat.le_of_ble_eq_true rfl⟩ (fun H locs hP hD hS => ?_)
  show W p l e room_1 s m #[Value.ref b] below meth c H locs 81 8057 Q (F0 m 737 ls [.int x5.1, .int x2.1])
  refine lv_icmp_eq (tgt := 986) hx hb dL_law_737 (by decide) (fun c7 => ?_) (fun c7 => ?_)
  · have h := if_t h c7
    obtain rfl := Option.some.inj h
    exact K ls H locs hl hP hD hS
  · have h := if_f h c7
    refine lv_iconst (v := 0) hx hb dL_law_740 (by decide) ?_
    cases h
set_option maxHeartbeats 4000000 in
set_option maxRecDepth 100000 in
theorem law_16 {p : Program} {l : Launch} {e : Env} {s : State} {m : MethodId} {below : List Frame} {meth : Method} {c : Code} {Q : State → Prop} {b L : Nat} {xs : Nat → Int32} (C0 : lw_At p s m meth c b L xs) {D : va_G} {k : Nat → ClassId} {a b2 : Nat → Nat} (hK : va_K D vwCl (ty5 k) s) (hN : NN s) (y3 : Int32) (R : RcV) (M : ModelV) (x : RcV × ModelV) (h : f_law_16 xs L y3 R M = some x) (K : ∀ (ls : Array Slot) (H : Heap) (locs : List Loc), lv_has ls 4 [(0, .ref b), (1, .ref (a 0)), (2, .ref (b2 0)), (3, .int y3)] → va_P D vwCl (rcW k a x.1 ++ modelW k b2 x.2) H → va_D (fun q : Nat => s.heap.size ≤ q) (rcW k a x.1 ++ modelW k b2 x.2) → va_S (fun q : Nat => s.heap.size ≤ q) s.heap H locs → W p l e room_1 s m #[Value.ref b] below meth c H locs 81 8057 Q (F0 m 986 ls [])) : ∀ (ls : Array Slot) (H : Heap) (locs : List Loc), lv_has ls 4 [(0, .ref b), (1, .ref (a 0)), (2, .ref (b2 0)), (3, .int y3)] → va_P D vwCl (rcW k a R ++ modelW k b2 M) H → va_D (fun q : Nat => s.heap.size ≤ q) (rcW k a R ++ modelW k b2 M) → va_S (fun q : Nat => s.heap.size ≤ q) s.heap H locs → W p l e room_1 s m #[Value.ref b] below meth c H locs 81 8057 Q (F0 m 742 ls []) := by
  obtain ⟨hx, hb, hr, hml, hown, hts, hX, hbl, hlocks, hgv⟩ := C0
  have hts := fun w h => hts w (wsL_law_in w h)
  have hbA : ¬ (fun q : Nat => s.heap.size ≤ q) b := Nat.not_le.mpr hbl
  intro ls H locs hl hP hD hS
  unfold f_law_16 at h
  refine lv_aload_n hx hb dL_law_742 rfl (lv_at hl 1 rfl) ?_
  refine lv_aload_n hx hb dL_law_743 rfl (lv_at hl 0 rfl) ?_
  refine lv_iload_n hx hb dL_law_744 rfl (lv_at hl 3 rfl) ?_
  refine lv_iconst (v := 1) hx hb dL_law_745 (by decide) ?_
  refine lv_iadd hx hb dL_law_746 ?_
  obtain ⟨c1, h⟩ := gd_s h
  refine va_sld hx hb hX hbl hbA hS (ix_in c1) dL_law_747 ?_
  refine lv_aload_n hx hb dL_law_748 rfl (lv_at hl 0 rfl) ?_
  refine lv_iload_n hx hb dL_law_749 rfl (lv_at hl 3 rfl) ?_
  refine lv_iconst (v := 2) hx hb dL_law_750 (by decide) ?_
  refine lv_iadd hx hb dL_law_751 ?_
  obtain ⟨c2, h⟩ := gd_s h
  refine va_sld hx hb hX hbl hbA hS (ix_in c2) dL_law_752 ?_
  obtain ⟨x3, h4, h⟩ := bd_s h
  refine cM_V (As := [.int (xs ((y3 + 1) : Int32).toNatClampNeg), .int (xs ((y3 + 2) : Int32).toNatClampNeg)]) (rest := []) (n := 2) (ov := (some (.int x3.1))) (wc := rcW k a R) (wc' := rcW k a x3.2) (w1 := rcW k a x3.2 ++ (modelW k b2 M)) hx hb hml hown hts hK hN hl.1 hP hD hS (Sp.lft (rc_ad k a _) (rc_ad k a _)) (c_X4_next l D k a R (xs ((y3 + 1) : Int32).toNatClampNeg) (xs ((y3 + 2) : Int32).toNatClampNeg) x3 h4) gL_law_X4_next rfl (by decide +kernel) ⟨⟨rfl, rfl⟩, Nat.le_of_ble_eq_true rfl, Nat.le_of_ble_eq_true rfl⟩ 0 4 rfl rfl rfl rfl rfl (Nat.le_of_ble_eq_true rfl) dL_law_753 ⟨Nat.le_of_ble_eq_true rfl, Nat.le_of_ble_eq_true rfl⟩ (fun H locs hP hD hS => ?_)
  show W p l e room_1 s m #[Value.ref b] below meth c H locs 81 8057 Q (F0 m 756 ls [.int x3.1])
  refine lv_aload_n hx hb dL_law_756 rfl (lv_at hl 2 rfl) ?_
  refine lv_aload_n hx hb dL_law_757 rfl (lv_at hl 0 rfl) ?_
  refine lv_iload_n hx hb dL_law_758 rfl (lv_at hl 3 rfl) ?_
  refine lv_iconst (v := 1) hx hb dL_law_759 (by decide) ?_
  refine lv_iadd hx hb dL_law_760 ?_
  obtain ⟨c5, h⟩ := gd_s h
  refine va_sld hx hb hX hbl hbA hS (ix_in c5) dL_law_761 ?_
  refine lv_aload_n hx hb dL_law_762 rfl (lv_at hl 0 rfl) ?_
  refine lv_iload_n hx hb dL_law_763 rfl (lv_at hl 3 rfl) ?_
  refine lv_iconst (v := 2) hx hb dL_law_764 (by decide) ?_
  refine lv_iadd hx hb dL_law_765 ?_
  obtain ⟨c6, h⟩ := gd_s h
  refine va_sld hx hb hX hbl hbA hS (ix_in c6) dL_law_766 ?_
  obtain ⟨x7, h8, h⟩ := bd_s h
  refine cR_V (As := [.int (xs ((y3 + 1) : Int32).toNatClampNeg), .int (xs ((y3 + 2) : Int32).toNatClampNeg)]) (rest := [.int x3.1]) (n := 2) (v := .int x7) hx hb hml hown hts hK hN hl.1 (c_X5_next l D k b2 M (xs ((y3 + 1) : Int32).toNatClampNeg) (xs ((y3 + 2) : Int32).toNatClampNeg) x7 h8) gL_law_X5_next rfl (by decide +kernel) ⟨⟨rfl, rfl⟩, Nat.le_of_ble_eq_true rfl, Nat.le_of_ble_eq_true rfl⟩ (va_P.rgt hP) 0 5 rfl rfl rfl rfl rfl (Nat.le_of_ble_eq_true rfl) dL_law_767 ⟨Nat.le_of_ble_eq_true rfl, Nat.le_of_ble_eq_true rfl⟩ ?_
  refine lv_icmp_eq (tgt := 986) hx hb dL_law_770 (by decide) (fun c9 => ?_) (fun c9 => ?_)
  · have h := if_t h c9
    obtain rfl := Option.some.inj h
    exact K ls H locs hl hP hD hS
  · have h := if_f h c9
    refine lv_iconst (v := 0) hx hb dL_law_773 (by decide) ?_
    cases h
set_option maxHeartbeats 4000000 in
set_option maxRecDepth 100000 in
theorem law_17 {p : Program} {l : Launch} {e : Env} {s : State} {m : MethodId} {below : List Frame} {meth : Method} {c : Code} {Q : State → Prop} {b L : Nat} {xs : Nat → Int32} (C0 : lw_At p s m meth c b L xs) {D : va_G} {k : Nat → ClassId} {a b2 : Nat → Nat} (hK : va_K D vwCl (ty5 k) s) (hN : NN s) (y3 : Int32) (R : RcV) (M : ModelV) (x : RcV × ModelV) (h : f_law_17 xs L y3 R M = some x) (K : ∀ (ls : Array Slot) (H : Heap) (locs : List Loc), lv_has ls 4 [(0, .ref b), (1, .ref (a 0)), (2, .ref (b2 0)), (3, .int y3)] → va_P D vwCl (rcW k a x.1 ++ modelW k b2 x.2) H → va_D (fun q : Nat => s.heap.size ≤ q) (rcW k a x.1 ++ modelW k b2 x.2) → va_S (fun q : Nat => s.heap.size ≤ q) s.heap H locs → W p l e room_1 s m #[Value.ref b] below meth c H locs 81 8057 Q (F0 m 986 ls [])) : ∀ (ls : Array Slot) (H : Heap) (locs : List Loc), lv_has ls 4 [(0, .ref b), (1, .ref (a 0)), (2, .ref (b2 0)), (3, .int y3)] → va_P D vwCl (rcW k a R ++ modelW k b2 M) H → va_D (fun q : Nat => s.heap.size ≤ q) (rcW k a R ++ modelW k b2 M) → va_S (fun q : Nat => s.heap.size ≤ q) s.heap H locs → W p l e room_1 s m #[Value.ref b] below meth c H locs 81 8057 Q (F0 m 775 ls []) := by
  obtain ⟨hx, hb, hr, hml, hown, hts, hX, hbl, hlocks, hgv⟩ := C0
  have hts := fun w h => hts w (wsL_law_in w h)
  have hbA : ¬ (fun q : Nat => s.heap.size ≤ q) b := Nat.not_le.mpr hbl
  intro ls H locs hl hP hD hS
  unfold f_law_17 at h
  refine lv_aload_n hx hb dL_law_775 rfl (lv_at hl 1 rfl) ?_
  refine lv_aload_n hx hb dL_law_776 rfl (lv_at hl 0 rfl) ?_
  refine lv_iload_n hx hb dL_law_777 rfl (lv_at hl 3 rfl) ?_
  refine lv_iconst (v := 1) hx hb dL_law_778 (by decide) ?_
  refine lv_iadd hx hb dL_law_779 ?_
  obtain ⟨c1, h⟩ := gd_s h
  refine va_sld hx hb hX hbl hbA hS (ix_in c1) dL_law_780 ?_
  refine lv_aload_n hx hb dL_law_781 rfl (lv_at hl 0 rfl) ?_
  refine lv_iload_n hx hb dL_law_782 rfl (lv_at hl 3 rfl) ?_
  refine lv_iconst (v := 2) hx hb dL_law_783 (by decide) ?_
  refine lv_iadd hx hb dL_law_784 ?_
  obtain ⟨c2, h⟩ := gd_s h
  refine va_sld hx hb hX hbl hbA hS (ix_in c2) dL_law_785 ?_
  refine lv_aload_n hx hb dL_law_786 rfl (lv_at hl 0 rfl) ?_
  refine lv_iload_n hx hb dL_law_787 rfl (lv_at hl 3 rfl) ?_
  refine lv_iconst (v := 3) hx hb dL_law_788 (by decide) ?_
  refine lv_iadd hx hb dL_law_789 ?_
  obtain ⟨c3, h⟩ := gd_s h
  refine va_sld hx hb hX hbl hbA hS (ix_in c3) dL_law_790 ?_
  obtain ⟨x4, h5, h⟩ := bd_s h
  refine cM_V (As := [.int (xs ((y3 + 1) : Int32).toNatClampNeg), .int (xs ((y3 + 2) : Int32).toNatClampNeg), .int (xs ((y3 + 3) : Int32).toNatClampNeg)]) (rest := []) (n := 3) (ov := (some (.int x4.1))) (wc := rcW k a R) (wc' := rcW k a x4.2) (w1 := rcW k a x4.2 ++ (modelW k b2 M)) hx hb hml hown hts hK hN hl.1 hP hD hS (Sp.lft (rc_ad k a _) (rc_ad k a _)) (c_X4_shared l D k a R (xs ((y3 + 1) : Int32).toNatClampNeg) (xs ((y3 + 2) : Int32).toNatClampNeg) (xs ((y3 + 3) : Int32).toNatClampNeg) x4 h5) gL_law_X4_shared rfl (by decide +kernel) ⟨⟨rfl, rfl⟩, Nat.le_of_ble_eq_true rfl, Nat.le_of_ble_eq_true rfl⟩ 0 4 rfl rfl rfl rfl rfl (Nat.le_of_ble_eq_true rfl) dL_law_791 ⟨Nat.le_of_ble_eq_true rfl, Nat.le_of_ble_eq_true rfl⟩ (fun H locs hP hD hS => ?_)
  show W p l e room_1 s m #[Value.ref b] below meth c H locs 81 8057 Q (F0 m 794 ls [.int x4.1])
  refine lv_aload_n hx hb dL_law_794 rfl (lv_at hl 2 rfl) ?_
  refine lv_aload_n hx hb dL_law_795 rfl (lv_at hl 0 rfl) ?_
  refine lv_iload_n hx hb dL_law_796 rfl (lv_at hl 3 rfl) ?_
  refine lv_iconst (v := 1) hx hb dL_law_797 (by decide) ?_
  refine lv_iadd hx hb dL_law_798 ?_
  obtain ⟨c6, h⟩ := gd_s h
  refine va_sld hx hb hX hbl hbA hS (ix_in c6) dL_law_799 ?_
  refine lv_aload_n hx hb dL_law_800 rfl (lv_at hl 0 rfl) ?_
  refine lv_iload_n hx hb dL_law_801 rfl (lv_at hl 3 rfl) ?_
  refine lv_iconst (v := 2) hx hb dL_law_802 (by decide) ?_
  refine lv_iadd hx hb dL_law_803 ?_
  obtain ⟨c7, h⟩ := gd_s h
  refine va_sld hx hb hX hbl hbA hS (ix_in c7) dL_law_804 ?_
  refine lv_aload_n hx hb dL_law_805 rfl (lv_at hl 0 rfl) ?_
  refine lv_iload_n hx hb dL_law_806 rfl (lv_at hl 3 rfl) ?_
  refine lv_iconst (v := 3) hx hb dL_law_807 (by decide) ?_
  refine lv_iadd hx hb dL_law_808 ?_
  obtain ⟨c8, h⟩ := gd_s h
  refine va_sld hx hb hX hbl hbA hS (ix_in c8) dL_law_809 ?_
  obtain ⟨x9, h10, h⟩ := bd_s h
  refine cM_V (As := [.int (xs ((y3 + 1) : Int32).toNatClampNeg), .int (xs ((y3 + 2) : Int32).toNatClampNeg), .int (xs ((y3 + 3) : Int32).toNatClampNeg)]) (rest := [.int x4.1]) (n := 3) (ov := (some (.int x9.1))) (wc := modelW k b2 M) (wc' := modelW k b2 x9.2) (w1 := rcW k a x4.2 ++ (modelW k b2 x9.2)) hx hb hml hown hts hK hN hl.1 hP hD hS (Sp.rgt (md_ad k b2 _) (md_ad k b2 _)) (c_X5_shared l D k b2 M (xs ((y3 + 1) : Int32).toNatClampNeg) (xs ((y3 + 2) : Int32).toNatClampNeg) (xs ((y3 + 3) : Int32).toNatClampNeg) x9 h10) gL_law_X5_shared rfl (by decide +kernel) ⟨⟨rfl, rfl⟩, Nat.le_of_ble_eq_true rfl, Nat.le_of_ble_eq_true rfl⟩ 0 5 rfl rfl rfl rfl rfl (Nat.le_of_ble_eq_true rfl) dL_law_810 ⟨Nat.le_of_ble_eq_true rfl, Nat.le_of_ble_eq_true rfl⟩ (fun H locs hP hD hS => ?_)
  show W p l e room_1 s m #[Value.ref b] below meth c H locs 81 8057 Q (F0 m 813 ls [.int x9.1, .int x4.1])
  refine lv_icmp_eq (tgt := 986) hx hb dL_law_813 (by decide) (fun c11 => ?_) (fun c11 => ?_)
  · have h := if_t h c11
    obtain rfl := Option.some.inj h
    exact K ls H locs hl hP hD hS
  · have h := if_f h c11
    refine lv_iconst (v := 0) hx hb dL_law_816 (by decide) ?_
    cases h
set_option maxHeartbeats 4000000 in
set_option maxRecDepth 100000 in
theorem law_18 {p : Program} {l : Launch} {e : Env} {s : State} {m : MethodId} {below : List Frame} {meth : Method} {c : Code} {Q : State → Prop} {b L : Nat} {xs : Nat → Int32} (C0 : lw_At p s m meth c b L xs) {D : va_G} {k : Nat → ClassId} {a b2 : Nat → Nat} (hK : va_K D vwCl (ty5 k) s) (hN : NN s) (y3 : Int32) (R : RcV) (M : ModelV) (x : RcV × ModelV) (h : f_law_18 xs L y3 R M = some x) (K : ∀ (ls : Array Slot) (H : Heap) (locs : List Loc), lv_has ls 4 [(0, .ref b), (1, .ref (a 0)), (2, .ref (b2 0)), (3, .int y3)] → va_P D vwCl (rcW k a x.1 ++ modelW k b2 x.2) H → va_D (fun q : Nat => s.heap.size ≤ q) (rcW k a x.1 ++ modelW k b2 x.2) → va_S (fun q : Nat => s.heap.size ≤ q) s.heap H locs → W p l e room_1 s m #[Value.ref b] below meth c H locs 81 8057 Q (F0 m 986 ls [])) : ∀ (ls : Array Slot) (H : Heap) (locs : List Loc), lv_has ls 4 [(0, .ref b), (1, .ref (a 0)), (2, .ref (b2 0)), (3, .int y3)] → va_P D vwCl (rcW k a R ++ modelW k b2 M) H → va_D (fun q : Nat => s.heap.size ≤ q) (rcW k a R ++ modelW k b2 M) → va_S (fun q : Nat => s.heap.size ≤ q) s.heap H locs → W p l e room_1 s m #[Value.ref b] below meth c H locs 81 8057 Q (F0 m 818 ls []) := by
  obtain ⟨hx, hb, hr, hml, hown, hts, hX, hbl, hlocks, hgv⟩ := C0
  have hts := fun w h => hts w (wsL_law_in w h)
  have hbA : ¬ (fun q : Nat => s.heap.size ≤ q) b := Nat.not_le.mpr hbl
  intro ls H locs hl hP hD hS
  unfold f_law_18 at h
  refine lv_aload_n hx hb dL_law_818 rfl (lv_at hl 1 rfl) ?_
  refine lv_aload_n hx hb dL_law_819 rfl (lv_at hl 0 rfl) ?_
  refine lv_iload_n hx hb dL_law_820 rfl (lv_at hl 3 rfl) ?_
  refine lv_iconst (v := 1) hx hb dL_law_821 (by decide) ?_
  refine lv_iadd hx hb dL_law_822 ?_
  obtain ⟨c1, h⟩ := gd_s h
  refine va_sld hx hb hX hbl hbA hS (ix_in c1) dL_law_823 ?_
  refine lv_aload_n hx hb dL_law_824 rfl (lv_at hl 0 rfl) ?_
  refine lv_iload_n hx hb dL_law_825 rfl (lv_at hl 3 rfl) ?_
  refine lv_iconst (v := 2) hx hb dL_law_826 (by decide) ?_
  refine lv_iadd hx hb dL_law_827 ?_
  obtain ⟨c2, h⟩ := gd_s h
  refine va_sld hx hb hX hbl hbA hS (ix_in c2) dL_law_828 ?_
  refine lv_aload_n hx hb dL_law_829 rfl (lv_at hl 0 rfl) ?_
  refine lv_iload_n hx hb dL_law_830 rfl (lv_at hl 3 rfl) ?_
  refine lv_iconst (v := 3) hx hb dL_law_831 (by decide) ?_
  refine lv_iadd hx hb dL_law_832 ?_
  obtain ⟨c3, h⟩ := gd_s h
  refine va_sld hx hb hX hbl hbA hS (ix_in c3) dL_law_833 ?_
  obtain ⟨x4, h5, h⟩ := bd_s h
  refine cM_V (As := [.int (xs ((y3 + 1) : Int32).toNatClampNeg), .int (xs ((y3 + 2) : Int32).toNatClampNeg), .int (xs ((y3 + 3) : Int32).toNatClampNeg)]) (rest := []) (n := 3) (ov := (some (.int x4.1))) (wc := rcW k a R) (wc' := rcW k a x4.2) (w1 := rcW k a x4.2 ++ (modelW k b2 M)) hx hb hml hown hts hK hN hl.1 hP hD hS (Sp.lft (rc_ad k a _) (rc_ad k a _)) (c_X4_estimate l D k a R (xs ((y3 + 1) : Int32).toNatClampNeg) (xs ((y3 + 2) : Int32).toNatClampNeg) (xs ((y3 + 3) : Int32).toNatClampNeg) x4 h5) gL_law_X4_estimate rfl (by decide +kernel) ⟨⟨rfl, rfl⟩, Nat.le_of_ble_eq_true rfl, Nat.le_of_ble_eq_true rfl⟩ 0 4 rfl rfl rfl rfl rfl (Nat.le_of_ble_eq_true rfl) dL_law_834 ⟨Nat.le_of_ble_eq_true rfl, Nat.le_of_ble_eq_true rfl⟩ (fun H locs hP hD hS => ?_)
  show W p l e room_1 s m #[Value.ref b] below meth c H locs 81 8057 Q (F0 m 837 ls [.int x4.1])
  refine lv_aload_n hx hb dL_law_837 rfl (lv_at hl 2 rfl) ?_
  refine lv_aload_n hx hb dL_law_838 rfl (lv_at hl 0 rfl) ?_
  refine lv_iload_n hx hb dL_law_839 rfl (lv_at hl 3 rfl) ?_
  refine lv_iconst (v := 1) hx hb dL_law_840 (by decide) ?_
  refine lv_iadd hx hb dL_law_841 ?_
  obtain ⟨c6, h⟩ := gd_s h
  refine va_sld hx hb hX hbl hbA hS (ix_in c6) dL_law_842 ?_
  refine lv_aload_n hx hb dL_law_843 rfl (lv_at hl 0 rfl) ?_
  refine lv_iload_n hx hb dL_law_844 rfl (lv_at hl 3 rfl) ?_
  refine lv_iconst (v := 2) hx hb dL_law_845 (by decide) ?_
  refine lv_iadd hx hb dL_law_846 ?_
  obtain ⟨c7, h⟩ := gd_s h
  refine va_sld hx hb hX hbl hbA hS (ix_in c7) dL_law_847 ?_
  refine lv_aload_n hx hb dL_law_848 rfl (lv_at hl 0 rfl) ?_
  refine lv_iload_n hx hb dL_law_849 rfl (lv_at hl 3 rfl) ?_
  refine lv_iconst (v := 3) hx hb dL_law_850 (by decide) ?_
  refine lv_iadd hx hb dL_law_851 ?_
  obtain ⟨c8, h⟩ := gd_s h
  refine va_sld hx hb hX hbl hbA hS (ix_in c8) dL_law_852 ?_
  obtain ⟨x9, h10, h⟩ := bd_s h
  refine cM_V (As := [.int (xs ((y3 + 1) : Int32).toNatClampNeg), .int (xs ((y3 + 2) : Int32).toNatClampNeg), .int (xs ((y3 + 3) : Int32).toNatClampNeg)]) (rest := [.int x4.1]) (n := 3) (ov := (some (.int x9.1))) (wc := modelW k b2 M) (wc' := modelW k b2 x9.2) (w1 := rcW k a x4.2 ++ (modelW k b2 x9.2)) hx hb hml hown hts hK hN hl.1 hP hD hS (Sp.rgt (md_ad k b2 _) (md_ad k b2 _)) (c_X5_estimate l D k b2 M (xs ((y3 + 1) : Int32).toNatClampNeg) (xs ((y3 + 2) : Int32).toNatClampNeg) (xs ((y3 + 3) : Int32).toNatClampNeg) x9 h10) gL_law_X5_estimate rfl (by decide +kernel) ⟨⟨rfl, rfl⟩, Nat.le_of_ble_eq_true rfl, Nat.le_of_ble_eq_true rfl⟩ 0 5 rfl rfl rfl rfl rfl (Nat.le_of_ble_eq_true rfl) dL_law_853 ⟨Nat.le_of_ble_eq_true rfl, Nat.le_of_ble_eq_true rfl⟩ (fun H locs hP hD hS => ?_)
  show W p l e room_1 s m #[Value.ref b] below meth c H locs 81 8057 Q (F0 m 856 ls [.int x9.1, .int x4.1])
  refine lv_icmp_eq (tgt := 986) hx hb dL_law_856 (by decide) (fun c11 => ?_) (fun c11 => ?_)
  · have h := if_t h c11
    obtain rfl := Option.some.inj h
    exact K ls H locs hl hP hD hS
  · have h := if_f h c11
    refine lv_iconst (v := 0) hx hb dL_law_859 (by decide) ?_
    cases h
set_option maxHeartbeats 4000000 in
set_option maxRecDepth 100000 in
theorem law_19 {p : Program} {l : Launch} {e : Env} {s : State} {m : MethodId} {below : List Frame} {meth : Method} {c : Code} {Q : State → Prop} {b L : Nat} {xs : Nat → Int32} (C0 : lw_At p s m meth c b L xs) {D : va_G} {k : Nat → ClassId} {a b2 : Nat → Nat} (hK : va_K D vwCl (ty5 k) s) (hN : NN s) (y3 : Int32) (R : RcV) (M : ModelV) (x : RcV × ModelV) (h : f_law_19 xs L y3 R M = some x) (K : ∀ (ls : Array Slot) (H : Heap) (locs : List Loc), lv_has ls 4 [(0, .ref b), (1, .ref (a 0)), (2, .ref (b2 0)), (3, .int y3)] → va_P D vwCl (rcW k a x.1 ++ modelW k b2 x.2) H → va_D (fun q : Nat => s.heap.size ≤ q) (rcW k a x.1 ++ modelW k b2 x.2) → va_S (fun q : Nat => s.heap.size ≤ q) s.heap H locs → W p l e room_1 s m #[Value.ref b] below meth c H locs 81 8057 Q (F0 m 986 ls [])) : ∀ (ls : Array Slot) (H : Heap) (locs : List Loc), lv_has ls 4 [(0, .ref b), (1, .ref (a 0)), (2, .ref (b2 0)), (3, .int y3)] → va_P D vwCl (rcW k a R ++ modelW k b2 M) H → va_D (fun q : Nat => s.heap.size ≤ q) (rcW k a R ++ modelW k b2 M) → va_S (fun q : Nat => s.heap.size ≤ q) s.heap H locs → W p l e room_1 s m #[Value.ref b] below meth c H locs 81 8057 Q (F0 m 861 ls []) := by
  obtain ⟨hx, hb, hr, hml, hown, hts, hX, hbl, hlocks, hgv⟩ := C0
  have hts := fun w h => hts w (wsL_law_in w h)
  have hbA : ¬ (fun q : Nat => s.heap.size ≤ q) b := Nat.not_le.mpr hbl
  intro ls H locs hl hP hD hS
  unfold f_law_19 at h
  refine lv_aload_n hx hb dL_law_861 rfl (lv_at hl 1 rfl) ?_
  refine lv_aload_n hx hb dL_law_862 rfl (lv_at hl 0 rfl) ?_
  refine lv_iload_n hx hb dL_law_863 rfl (lv_at hl 3 rfl) ?_
  refine lv_iconst (v := 1) hx hb dL_law_864 (by decide) ?_
  refine lv_iadd hx hb dL_law_865 ?_
  obtain ⟨c1, h⟩ := gd_s h
  refine va_sld hx hb hX hbl hbA hS (ix_in c1) dL_law_866 ?_
  refine lv_aload_n hx hb dL_law_867 rfl (lv_at hl 0 rfl) ?_
  refine lv_iload_n hx hb dL_law_868 rfl (lv_at hl 3 rfl) ?_
  refine lv_iconst (v := 2) hx hb dL_law_869 (by decide) ?_
  refine lv_iadd hx hb dL_law_870 ?_
  obtain ⟨c2, h⟩ := gd_s h
  refine va_sld hx hb hX hbl hbA hS (ix_in c2) dL_law_871 ?_
  obtain ⟨x3, h4, h⟩ := bd_s h
  refine cM_V (As := [.int (xs ((y3 + 1) : Int32).toNatClampNeg), .int (xs ((y3 + 2) : Int32).toNatClampNeg)]) (rest := []) (n := 2) (ov := (some (.int x3.1))) (wc := rcW k a R) (wc' := rcW k a x3.2) (w1 := rcW k a x3.2 ++ (modelW k b2 M)) hx hb hml hown hts hK hN hl.1 hP hD hS (Sp.lft (rc_ad k a _) (rc_ad k a _)) (c_X4_doubt l D k a R (xs ((y3 + 1) : Int32).toNatClampNeg) (xs ((y3 + 2) : Int32).toNatClampNeg) x3 h4) gL_law_X4_doubt rfl (by decide +kernel) ⟨⟨rfl, rfl⟩, Nat.le_of_ble_eq_true rfl, Nat.le_of_ble_eq_true rfl⟩ 0 4 rfl rfl rfl rfl rfl (Nat.le_of_ble_eq_true rfl) dL_law_872 ⟨Nat.le_of_ble_eq_true rfl, Nat.le_of_ble_eq_true rfl⟩ (fun H locs hP hD hS => ?_)
  show W p l e room_1 s m #[Value.ref b] below meth c H locs 81 8057 Q (F0 m 875 ls [.int x3.1])
  refine lv_aload_n hx hb dL_law_875 rfl (lv_at hl 2 rfl) ?_
  refine lv_aload_n hx hb dL_law_876 rfl (lv_at hl 0 rfl) ?_
  refine lv_iload_n hx hb dL_law_877 rfl (lv_at hl 3 rfl) ?_
  refine lv_iconst (v := 1) hx hb dL_law_878 (by decide) ?_
  refine lv_iadd hx hb dL_law_879 ?_
  obtain ⟨c5, h⟩ := gd_s h
  refine va_sld hx hb hX hbl hbA hS (ix_in c5) dL_law_880 ?_
  refine lv_aload_n hx hb dL_law_881 rfl (lv_at hl 0 rfl) ?_
  refine lv_iload_n hx hb dL_law_882 rfl (lv_at hl 3 rfl) ?_
  refine lv_iconst (v := 2) hx hb dL_law_883 (by decide) ?_
  refine lv_iadd hx hb dL_law_884 ?_
  obtain ⟨c6, h⟩ := gd_s h
  refine va_sld hx hb hX hbl hbA hS (ix_in c6) dL_law_885 ?_
  obtain ⟨x7, h8, h⟩ := bd_s h
  refine cM_V (As := [.int (xs ((y3 + 1) : Int32).toNatClampNeg), .int (xs ((y3 + 2) : Int32).toNatClampNeg)]) (rest := [.int x3.1]) (n := 2) (ov := (some (.int x7.1))) (wc := modelW k b2 M) (wc' := modelW k b2 x7.2) (w1 := rcW k a x3.2 ++ (modelW k b2 x7.2)) hx hb hml hown hts hK hN hl.1 hP hD hS (Sp.rgt (md_ad k b2 _) (md_ad k b2 _)) (c_X5_doubt l D k b2 M (xs ((y3 + 1) : Int32).toNatClampNeg) (xs ((y3 + 2) : Int32).toNatClampNeg) x7 h8) gL_law_X5_doubt rfl (by decide +kernel) ⟨⟨rfl, rfl⟩, Nat.le_of_ble_eq_true rfl, Nat.le_of_ble_eq_true rfl⟩ 0 5 rfl rfl rfl rfl rfl (Nat.le_of_ble_eq_true rfl) dL_law_886 ⟨Nat.le_of_ble_eq_true rfl, Nat.le_of_ble_eq_true rfl⟩ (fun H locs hP hD hS => ?_)
  show W p l e room_1 s m #[Value.ref b] below meth c H locs 81 8057 Q (F0 m 889 ls [.int x7.1, .int x3.1])
  refine lv_icmp_eq (tgt := 986) hx hb dL_law_889 (by decide) (fun c9 => ?_) (fun c9 => ?_)
  · have h := if_t h c9
    obtain rfl := Option.some.inj h
    exact K ls H locs hl hP hD hS
  · have h := if_f h c9
    refine lv_iconst (v := 0) hx hb dL_law_892 (by decide) ?_
    cases h
set_option maxHeartbeats 4000000 in
set_option maxRecDepth 100000 in
theorem law_20 {p : Program} {l : Launch} {e : Env} {s : State} {m : MethodId} {below : List Frame} {meth : Method} {c : Code} {Q : State → Prop} {b L : Nat} {xs : Nat → Int32} (C0 : lw_At p s m meth c b L xs) {D : va_G} {k : Nat → ClassId} {a b2 : Nat → Nat} (hK : va_K D vwCl (ty5 k) s) (hN : NN s) (y3 : Int32) (R : RcV) (M : ModelV) (x : RcV × ModelV) (h : f_law_20 xs L y3 R M = some x) (K : ∀ (ls : Array Slot) (H : Heap) (locs : List Loc), lv_has ls 4 [(0, .ref b), (1, .ref (a 0)), (2, .ref (b2 0)), (3, .int y3)] → va_P D vwCl (rcW k a x.1 ++ modelW k b2 x.2) H → va_D (fun q : Nat => s.heap.size ≤ q) (rcW k a x.1 ++ modelW k b2 x.2) → va_S (fun q : Nat => s.heap.size ≤ q) s.heap H locs → W p l e room_1 s m #[Value.ref b] below meth c H locs 81 8057 Q (F0 m 986 ls [])) : ∀ (ls : Array Slot) (H : Heap) (locs : List Loc), lv_has ls 4 [(0, .ref b), (1, .ref (a 0)), (2, .ref (b2 0)), (3, .int y3)] → va_P D vwCl (rcW k a R ++ modelW k b2 M) H → va_D (fun q : Nat => s.heap.size ≤ q) (rcW k a R ++ modelW k b2 M) → va_S (fun q : Nat => s.heap.size ≤ q) s.heap H locs → W p l e room_1 s m #[Value.ref b] below meth c H locs 81 8057 Q (F0 m 894 ls []) := by
  obtain ⟨hx, hb, hr, hml, hown, hts, hX, hbl, hlocks, hgv⟩ := C0
  have hts := fun w h => hts w (wsL_law_in w h)
  have hbA : ¬ (fun q : Nat => s.heap.size ≤ q) b := Nat.not_le.mpr hbl
  intro ls H locs hl hP hD hS
  unfold f_law_20 at h
  refine lv_aload_n hx hb dL_law_894 rfl (lv_at hl 1 rfl) ?_
  refine lv_aload_n hx hb dL_law_895 rfl (lv_at hl 0 rfl) ?_
  refine lv_iload_n hx hb dL_law_896 rfl (lv_at hl 3 rfl) ?_
  refine lv_iconst (v := 1) hx hb dL_law_897 (by decide) ?_
  refine lv_iadd hx hb dL_law_898 ?_
  obtain ⟨c1, h⟩ := gd_s h
  refine va_sld hx hb hX hbl hbA hS (ix_in c1) dL_law_899 ?_
  obtain ⟨x2, h3, h⟩ := bd_s h
  refine cR_V (As := [.int (xs ((y3 + 1) : Int32).toNatClampNeg)]) (rest := []) (n := 1) (v := .int x2) hx hb hml hown hts hK hN hl.1 (c_X4_kept l D k a R (xs ((y3 + 1) : Int32).toNatClampNeg) x2 h3) gL_law_X4_kept rfl (by decide +kernel) ⟨⟨rfl, rfl⟩, Nat.le_of_ble_eq_true rfl, Nat.le_of_ble_eq_true rfl⟩ (va_P.lft hP) 0 4 rfl rfl rfl rfl rfl (Nat.le_of_ble_eq_true rfl) dL_law_900 ⟨Nat.le_of_ble_eq_true rfl, Nat.le_of_ble_eq_true rfl⟩ ?_
  refine lv_aload_n hx hb dL_law_903 rfl (lv_at hl 2 rfl) ?_
  refine lv_aload_n hx hb dL_law_904 rfl (lv_at hl 0 rfl) ?_
  refine lv_iload_n hx hb dL_law_905 rfl (lv_at hl 3 rfl) ?_
  refine lv_iconst (v := 1) hx hb dL_law_906 (by decide) ?_
  refine lv_iadd hx hb dL_law_907 ?_
  obtain ⟨c4, h⟩ := gd_s h
  refine va_sld hx hb hX hbl hbA hS (ix_in c4) dL_law_908 ?_
  obtain ⟨x5, h6, h⟩ := bd_s h
  refine cR_V (As := [.int (xs ((y3 + 1) : Int32).toNatClampNeg)]) (rest := [.int x2]) (n := 1) (v := .int x5) hx hb hml hown hts hK hN hl.1 (c_X5_kept l D k b2 M (xs ((y3 + 1) : Int32).toNatClampNeg) x5 h6) gL_law_X5_kept rfl (by decide +kernel) ⟨⟨rfl, rfl⟩, Nat.le_of_ble_eq_true rfl, Nat.le_of_ble_eq_true rfl⟩ (va_P.rgt hP) 0 5 rfl rfl rfl rfl rfl (Nat.le_of_ble_eq_true rfl) dL_law_909 ⟨Nat.le_of_ble_eq_true rfl, Nat.le_of_ble_eq_true rfl⟩ ?_
  refine lv_icmp_eq (tgt := 986) hx hb dL_law_912 (by decide) (fun c7 => ?_) (fun c7 => ?_)
  · have h := if_t h c7
    obtain rfl := Option.some.inj h
    exact K ls H locs hl hP hD hS
  · have h := if_f h c7
    refine lv_iconst (v := 0) hx hb dL_law_915 (by decide) ?_
    cases h
set_option maxHeartbeats 4000000 in
set_option maxRecDepth 100000 in
theorem law_21 {p : Program} {l : Launch} {e : Env} {s : State} {m : MethodId} {below : List Frame} {meth : Method} {c : Code} {Q : State → Prop} {b L : Nat} {xs : Nat → Int32} (C0 : lw_At p s m meth c b L xs) {D : va_G} {k : Nat → ClassId} {a b2 : Nat → Nat} (hK : va_K D vwCl (ty5 k) s) (hN : NN s) (y3 : Int32) (R : RcV) (M : ModelV) (x : RcV × ModelV) (h : f_law_21 xs L y3 R M = some x) (K : ∀ (ls : Array Slot) (H : Heap) (locs : List Loc), lv_has ls 4 [(0, .ref b), (1, .ref (a 0)), (2, .ref (b2 0)), (3, .int y3)] → va_P D vwCl (rcW k a x.1 ++ modelW k b2 x.2) H → va_D (fun q : Nat => s.heap.size ≤ q) (rcW k a x.1 ++ modelW k b2 x.2) → va_S (fun q : Nat => s.heap.size ≤ q) s.heap H locs → W p l e room_1 s m #[Value.ref b] below meth c H locs 81 8057 Q (F0 m 986 ls [])) : ∀ (ls : Array Slot) (H : Heap) (locs : List Loc), lv_has ls 4 [(0, .ref b), (1, .ref (a 0)), (2, .ref (b2 0)), (3, .int y3)] → va_P D vwCl (rcW k a R ++ modelW k b2 M) H → va_D (fun q : Nat => s.heap.size ≤ q) (rcW k a R ++ modelW k b2 M) → va_S (fun q : Nat => s.heap.size ≤ q) s.heap H locs → W p l e room_1 s m #[Value.ref b] below meth c H locs 81 8057 Q (F0 m 917 ls []) := by
  obtain ⟨hx, hb, hr, hml, hown, hts, hX, hbl, hlocks, hgv⟩ := C0
  have hts := fun w h => hts w (wsL_law_in w h)
  have hbA : ¬ (fun q : Nat => s.heap.size ≤ q) b := Nat.not_le.mpr hbl
  intro ls H locs hl hP hD hS
  unfold f_law_21 at h
  refine lv_aload_n hx hb dL_law_917 rfl (lv_at hl 1 rfl) ?_
  refine lv_aload_n hx hb dL_law_918 rfl (lv_at hl 0 rfl) ?_
  refine lv_iload_n hx hb dL_law_919 rfl (lv_at hl 3 rfl) ?_
  refine lv_iconst (v := 1) hx hb dL_law_920 (by decide) ?_
  refine lv_iadd hx hb dL_law_921 ?_
  obtain ⟨c1, h⟩ := gd_s h
  refine va_sld hx hb hX hbl hbA hS (ix_in c1) dL_law_922 ?_
  obtain ⟨x2, h3, h⟩ := bd_s h
  refine cM_V (As := [.int (xs ((y3 + 1) : Int32).toNatClampNeg)]) (rest := []) (n := 1) (ov := (some (.int x2.1))) (wc := rcW k a R) (wc' := rcW k a x2.2) (w1 := rcW k a x2.2 ++ (modelW k b2 M)) hx hb hml hown hts hK hN hl.1 hP hD hS (Sp.lft (rc_ad k a _) (rc_ad k a _)) (c_X4_image l D k a R (xs ((y3 + 1) : Int32).toNatClampNeg) x2 h3) gL_law_X4_image rfl (by decide +kernel) ⟨⟨rfl, rfl⟩, Nat.le_of_ble_eq_true rfl, Nat.le_of_ble_eq_true rfl⟩ 0 4 rfl rfl rfl rfl rfl (Nat.le_of_ble_eq_true rfl) dL_law_923 ⟨Nat.le_of_ble_eq_true rfl, Nat.le_of_ble_eq_true rfl⟩ (fun H locs hP hD hS => ?_)
  show W p l e room_1 s m #[Value.ref b] below meth c H locs 81 8057 Q (F0 m 926 ls [.int x2.1])
  refine lv_aload_n hx hb dL_law_926 rfl (lv_at hl 2 rfl) ?_
  refine lv_aload_n hx hb dL_law_927 rfl (lv_at hl 0 rfl) ?_
  refine lv_iload_n hx hb dL_law_928 rfl (lv_at hl 3 rfl) ?_
  refine lv_iconst (v := 1) hx hb dL_law_929 (by decide) ?_
  refine lv_iadd hx hb dL_law_930 ?_
  obtain ⟨c4, h⟩ := gd_s h
  refine va_sld hx hb hX hbl hbA hS (ix_in c4) dL_law_931 ?_
  obtain ⟨x5, h6, h⟩ := bd_s h
  refine cM_V (As := [.int (xs ((y3 + 1) : Int32).toNatClampNeg)]) (rest := [.int x2.1]) (n := 1) (ov := (some (.int x5.1))) (wc := modelW k b2 M) (wc' := modelW k b2 x5.2) (w1 := rcW k a x2.2 ++ (modelW k b2 x5.2)) hx hb hml hown hts hK hN hl.1 hP hD hS (Sp.rgt (md_ad k b2 _) (md_ad k b2 _)) (c_X5_image l D k b2 M (xs ((y3 + 1) : Int32).toNatClampNeg) x5 h6) gL_law_X5_image rfl (by decide +kernel) ⟨⟨rfl, rfl⟩, Nat.le_of_ble_eq_true rfl, Nat.le_of_ble_eq_true rfl⟩ 0 5 rfl rfl rfl rfl rfl (Nat.le_of_ble_eq_true rfl) dL_law_932 ⟨Nat.le_of_ble_eq_true rfl, Nat.le_of_ble_eq_true rfl⟩ (fun H locs hP hD hS => ?_)
  show W p l e room_1 s m #[Value.ref b] below meth c H locs 81 8057 Q (F0 m 935 ls [.int x5.1, .int x2.1])
  refine lv_icmp_eq (tgt := 986) hx hb dL_law_935 (by decide) (fun c7 => ?_) (fun c7 => ?_)
  · have h := if_t h c7
    obtain rfl := Option.some.inj h
    exact K ls H locs hl hP hD hS
  · have h := if_f h c7
    refine lv_iconst (v := 0) hx hb dL_law_938 (by decide) ?_
    cases h
set_option maxHeartbeats 4000000 in
set_option maxRecDepth 100000 in
theorem law_22 {p : Program} {l : Launch} {e : Env} {s : State} {m : MethodId} {below : List Frame} {meth : Method} {c : Code} {Q : State → Prop} {b L : Nat} {xs : Nat → Int32} (C0 : lw_At p s m meth c b L xs) {D : va_G} {k : Nat → ClassId} {a b2 : Nat → Nat} (hK : va_K D vwCl (ty5 k) s) (hN : NN s) (y3 : Int32) (R : RcV) (M : ModelV) (x : RcV × ModelV) (h : f_law_22 xs L y3 R M = some x) (K : ∀ (ls : Array Slot) (H : Heap) (locs : List Loc), lv_has ls 4 [(0, .ref b), (1, .ref (a 0)), (2, .ref (b2 0)), (3, .int y3)] → va_P D vwCl (rcW k a x.1 ++ modelW k b2 x.2) H → va_D (fun q : Nat => s.heap.size ≤ q) (rcW k a x.1 ++ modelW k b2 x.2) → va_S (fun q : Nat => s.heap.size ≤ q) s.heap H locs → W p l e room_1 s m #[Value.ref b] below meth c H locs 81 8057 Q (F0 m 986 ls [])) : ∀ (ls : Array Slot) (H : Heap) (locs : List Loc), lv_has ls 4 [(0, .ref b), (1, .ref (a 0)), (2, .ref (b2 0)), (3, .int y3)] → va_P D vwCl (rcW k a R ++ modelW k b2 M) H → va_D (fun q : Nat => s.heap.size ≤ q) (rcW k a R ++ modelW k b2 M) → va_S (fun q : Nat => s.heap.size ≤ q) s.heap H locs → W p l e room_1 s m #[Value.ref b] below meth c H locs 81 8057 Q (F0 m 940 ls []) := by
  obtain ⟨hx, hb, hr, hml, hown, hts, hX, hbl, hlocks, hgv⟩ := C0
  have hts := fun w h => hts w (wsL_law_in w h)
  have hbA : ¬ (fun q : Nat => s.heap.size ≤ q) b := Nat.not_le.mpr hbl
  intro ls H locs hl hP hD hS
  unfold f_law_22 at h
  refine lv_aload_n hx hb dL_law_940 rfl (lv_at hl 1 rfl) ?_
  refine lv_aload_n hx hb dL_law_941 rfl (lv_at hl 0 rfl) ?_
  refine lv_iload_n hx hb dL_law_942 rfl (lv_at hl 3 rfl) ?_
  refine lv_iconst (v := 1) hx hb dL_law_943 (by decide) ?_
  refine lv_iadd hx hb dL_law_944 ?_
  obtain ⟨c1, h⟩ := gd_s h
  refine va_sld hx hb hX hbl hbA hS (ix_in c1) dL_law_945 ?_
  obtain ⟨x2, h3, h⟩ := bd_s h
  refine cM_V (As := [.int (xs ((y3 + 1) : Int32).toNatClampNeg)]) (rest := []) (n := 1) (ov := (some (.int x2.1))) (wc := rcW k a R) (wc' := rcW k a x2.2) (w1 := rcW k a x2.2 ++ (modelW k b2 M)) hx hb hml hown hts hK hN hl.1 hP hD hS (Sp.lft (rc_ad k a _) (rc_ad k a _)) (c_X4_restore l D k a R (xs ((y3 + 1) : Int32).toNatClampNeg) x2 h3) gL_law_X4_restore rfl (by decide +kernel) ⟨⟨rfl, rfl⟩, Nat.le_of_ble_eq_true rfl, Nat.le_of_ble_eq_true rfl⟩ 0 4 rfl rfl rfl rfl rfl (Nat.le_of_ble_eq_true rfl) dL_law_946 ⟨Nat.le_of_ble_eq_true rfl, Nat.le_of_ble_eq_true rfl⟩ (fun H locs hP hD hS => ?_)
  show W p l e room_1 s m #[Value.ref b] below meth c H locs 81 8057 Q (F0 m 949 ls [.int x2.1])
  refine lv_aload_n hx hb dL_law_949 rfl (lv_at hl 2 rfl) ?_
  refine lv_aload_n hx hb dL_law_950 rfl (lv_at hl 0 rfl) ?_
  refine lv_iload_n hx hb dL_law_951 rfl (lv_at hl 3 rfl) ?_
  refine lv_iconst (v := 1) hx hb dL_law_952 (by decide) ?_
  refine lv_iadd hx hb dL_law_953 ?_
  obtain ⟨c4, h⟩ := gd_s h
  refine va_sld hx hb hX hbl hbA hS (ix_in c4) dL_law_954 ?_
  obtain ⟨x5, h6, h⟩ := bd_s h
  refine cM_V (As := [.int (xs ((y3 + 1) : Int32).toNatClampNeg)]) (rest := [.int x2.1]) (n := 1) (ov := (some (.int x5.1))) (wc := modelW k b2 M) (wc' := modelW k b2 x5.2) (w1 := rcW k a x2.2 ++ (modelW k b2 x5.2)) hx hb hml hown hts hK hN hl.1 hP hD hS (Sp.rgt (md_ad k b2 _) (md_ad k b2 _)) (c_X5_restore l D k b2 M (xs ((y3 + 1) : Int32).toNatClampNeg) x5 h6) gL_law_X5_restore rfl (by decide +kernel) ⟨⟨rfl, rfl⟩, Nat.le_of_ble_eq_true rfl, Nat.le_of_ble_eq_true rfl⟩ 0 5 rfl rfl rfl rfl rfl (Nat.le_of_ble_eq_true rfl) dL_law_955 ⟨Nat.le_of_ble_eq_true rfl, Nat.le_of_ble_eq_true rfl⟩ (fun H locs hP hD hS => ?_)
  show W p l e room_1 s m #[Value.ref b] below meth c H locs 81 8057 Q (F0 m 958 ls [.int x5.1, .int x2.1])
  refine lv_icmp_eq (tgt := 986) hx hb dL_law_958 (by decide) (fun c7 => ?_) (fun c7 => ?_)
  · have h := if_t h c7
    obtain rfl := Option.some.inj h
    exact K ls H locs hl hP hD hS
  · have h := if_f h c7
    refine lv_iconst (v := 0) hx hb dL_law_961 (by decide) ?_
    cases h
set_option maxHeartbeats 4000000 in
set_option maxRecDepth 100000 in
theorem law_23 {p : Program} {l : Launch} {e : Env} {s : State} {m : MethodId} {below : List Frame} {meth : Method} {c : Code} {Q : State → Prop} {b L : Nat} {xs : Nat → Int32} (C0 : lw_At p s m meth c b L xs) {D : va_G} {k : Nat → ClassId} {a b2 : Nat → Nat} (hK : va_K D vwCl (ty5 k) s) (hN : NN s) (y3 : Int32) (R : RcV) (M : ModelV) (x : RcV × ModelV) (h : f_law_23 xs L y3 R M = some x) (K : ∀ (ls : Array Slot) (H : Heap) (locs : List Loc), lv_has ls 4 [(0, .ref b), (1, .ref (a 0)), (2, .ref (b2 0)), (3, .int y3)] → va_P D vwCl (rcW k a x.1 ++ modelW k b2 x.2) H → va_D (fun q : Nat => s.heap.size ≤ q) (rcW k a x.1 ++ modelW k b2 x.2) → va_S (fun q : Nat => s.heap.size ≤ q) s.heap H locs → W p l e room_1 s m #[Value.ref b] below meth c H locs 81 8057 Q (F0 m 986 ls [])) : ∀ (ls : Array Slot) (H : Heap) (locs : List Loc), lv_has ls 4 [(0, .ref b), (1, .ref (a 0)), (2, .ref (b2 0)), (3, .int y3)] → va_P D vwCl (rcW k a R ++ modelW k b2 M) H → va_D (fun q : Nat => s.heap.size ≤ q) (rcW k a R ++ modelW k b2 M) → va_S (fun q : Nat => s.heap.size ≤ q) s.heap H locs → W p l e room_1 s m #[Value.ref b] below meth c H locs 81 8057 Q (F0 m 963 ls []) := by
  obtain ⟨hx, hb, hr, hml, hown, hts, hX, hbl, hlocks, hgv⟩ := C0
  have hts := fun w h => hts w (wsL_law_in w h)
  have hbA : ¬ (fun q : Nat => s.heap.size ≤ q) b := Nat.not_le.mpr hbl
  intro ls H locs hl hP hD hS
  unfold f_law_23 at h
  refine lv_aload_n hx hb dL_law_963 rfl (lv_at hl 1 rfl) ?_
  refine lv_aload_n hx hb dL_law_964 rfl (lv_at hl 0 rfl) ?_
  refine lv_iload_n hx hb dL_law_965 rfl (lv_at hl 3 rfl) ?_
  refine lv_iconst (v := 1) hx hb dL_law_966 (by decide) ?_
  refine lv_iadd hx hb dL_law_967 ?_
  obtain ⟨c1, h⟩ := gd_s h
  refine va_sld hx hb hX hbl hbA hS (ix_in c1) dL_law_968 ?_
  obtain ⟨x2, h3, h⟩ := bd_s h
  refine cR_V (As := [.int (xs ((y3 + 1) : Int32).toNatClampNeg)]) (rest := []) (n := 1) (v := .int x2) hx hb hml hown hts hK hN hl.1 (c_X4_count l D k a R (xs ((y3 + 1) : Int32).toNatClampNeg) x2 h3) gL_law_X4_count rfl (by decide +kernel) ⟨⟨rfl, rfl⟩, Nat.le_of_ble_eq_true rfl, Nat.le_of_ble_eq_true rfl⟩ (va_P.lft hP) 0 4 rfl rfl rfl rfl rfl (Nat.le_of_ble_eq_true rfl) dL_law_969 ⟨Nat.le_of_ble_eq_true rfl, Nat.le_of_ble_eq_true rfl⟩ ?_
  refine lv_aload_n hx hb dL_law_972 rfl (lv_at hl 2 rfl) ?_
  refine lv_aload_n hx hb dL_law_973 rfl (lv_at hl 0 rfl) ?_
  refine lv_iload_n hx hb dL_law_974 rfl (lv_at hl 3 rfl) ?_
  refine lv_iconst (v := 1) hx hb dL_law_975 (by decide) ?_
  refine lv_iadd hx hb dL_law_976 ?_
  obtain ⟨c4, h⟩ := gd_s h
  refine va_sld hx hb hX hbl hbA hS (ix_in c4) dL_law_977 ?_
  obtain ⟨x5, h6, h⟩ := bd_s h
  refine cR_V (As := [.int (xs ((y3 + 1) : Int32).toNatClampNeg)]) (rest := [.int x2]) (n := 1) (v := .int x5) hx hb hml hown hts hK hN hl.1 (c_X5_count l D k b2 M (xs ((y3 + 1) : Int32).toNatClampNeg) x5 h6) gL_law_X5_count rfl (by decide +kernel) ⟨⟨rfl, rfl⟩, Nat.le_of_ble_eq_true rfl, Nat.le_of_ble_eq_true rfl⟩ (va_P.rgt hP) 0 5 rfl rfl rfl rfl rfl (Nat.le_of_ble_eq_true rfl) dL_law_978 ⟨Nat.le_of_ble_eq_true rfl, Nat.le_of_ble_eq_true rfl⟩ ?_
  refine lv_icmp_eq (tgt := 986) hx hb dL_law_981 (by decide) (fun c7 => ?_) (fun c7 => ?_)
  · have h := if_t h c7
    obtain rfl := Option.some.inj h
    exact K ls H locs hl hP hD hS
  · have h := if_f h c7
    refine lv_iconst (v := 0) hx hb dL_law_984 (by decide) ?_
    cases h
