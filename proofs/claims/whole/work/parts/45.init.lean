/-! ===== PURE HALF. what the constructors leave ===== -/
abbrev ZI : Nat → Int32 := fun _ => (0 : Int32)
abbrev ZL : Nat → Int64 := fun _ => (0 : Int64)
abbrev iC : CellV := (0, upTo 256 (fun _ => -1) ZI, ZI, ZI)
abbrev iS : SceneV := (ZI, upTo 16 (fun _ => 15) ZI, 0, ZI, ZI, ZI, ZL, upTo 512 (fun _ => -6) ZI)
abbrev iM : ModelV := (ZI, upTo 16 (fun _ => 15) ZI, 0, ZI, ZI, ZI, ZI, upTo 512 (fun _ => -6) ZI, ZI, 0, 0, 0, 0, ZI, ZI, ZI, ZI, ZI, ZI)
theorem lit_le {N i : Nat} (hN : N < 2 ^ 31) (hi : i < N) : ¬ nI N ≤ nI i := by rw [n_le hN (by omega)]; omega
theorem X0_init : f_X0_init = some iC := by
  have h := lp_F (body := f_X0_init_L36) (fun i s => (nI i, s)) 256 (fun i => ((0, upTo i (fun _ => -1) ZI, ZI, ZI) : CellV)) id (fun i hi => by
    unfold f_X0_init_L36
    have c : ¬ (256 : Int32) ≤ nI i := lit_le (N := 256) (by omega) hi
    simp only [if_neg c, gd_t (ix_n hi (by omega : (256 : Nat) ≤ 65536)), cl_n (show i < 65536 by omega), nI_1, upTo_s i (fun _ => (-1 : Int32))]) (by
    unfold f_X0_init_L36
    have c : (256 : Int32) ≤ nI 256 := by decide
    simp only [if_pos c]; rfl) fu 0 (by omega) (fu_lt (by omega))
  have e1 : upTo 0 (fun _ => (-1 : Int32)) ZI = ZI := upTo_0 _ _
  rw [e1] at h
  unfold f_X0_init
  rw [show lp f_X0_init_L36 fu (0, (0, ZI, ZI, ZI)) = some iC from h, bd_some]
theorem X1_init : f_X1_init = some iS := by
  have h := lp_F (body := f_X1_init_L68) (fun i s => (nI i, s)) 16 (fun i => ((ZI, upTo i (fun _ => 15) ZI, 0, ZI, ZI, ZI, ZL, ZI) : SceneV)) id (fun i hi => by
    unfold f_X1_init_L68
    have c : ¬ (16 : Int32) ≤ nI i := lit_le (N := 16) (by omega) hi
    simp only [if_neg c, gd_t (ix_n hi (by omega : (16 : Nat) ≤ 65536)), cl_n (show i < 65536 by omega), nI_1, upTo_s i (fun _ => (15 : Int32))]) (by
    unfold f_X1_init_L68
    have c : (16 : Int32) ≤ nI 16 := by decide
    simp only [if_pos c]; rfl) fu 0 (by omega) (fu_lt (by omega))
  have h2 := lp_F (body := f_X1_init_L90) (fun i s => (nI i, s)) 512 (fun i => ((ZI, upTo 16 (fun _ => 15) ZI, 0, ZI, ZI, ZI, ZL, upTo i (fun _ => -6) ZI) : SceneV)) id (fun i hi => by
    unfold f_X1_init_L90
    have c : ¬ (512 : Int32) ≤ nI i := lit_le (N := 512) (by omega) hi
    simp only [if_neg c, gd_t (ix_n hi (by omega : (512 : Nat) ≤ 65536)), cl_n (show i < 65536 by omega), nI_1, upTo_s i (fun _ => (-6 : Int32))]) (by
    unfold f_X1_init_L90
    have c : (512 : Int32) ≤ nI 512 := by decide
    simp only [if_pos c]; rfl) fu 0 (by omega) (fu_lt (by omega))
  have e1 : upTo 0 (fun _ => (15 : Int32)) ZI = ZI := upTo_0 _ _
  have e2 : upTo 0 (fun _ => (-6 : Int32)) ZI = ZI := upTo_0 _ _
  rw [e1] at h
  rw [e2] at h2
  unfold f_X1_init
  rw [show lp f_X1_init_L68 fu (0, (ZI, ZI, 0, ZI, ZI, ZI, ZL, ZI)) = some (ZI, upTo 16 (fun _ => 15) ZI, 0, ZI, ZI, ZI, ZL, ZI) from h, bd_some]
  rw [show lp f_X1_init_L90 fu (0, (ZI, upTo 16 (fun _ => 15) ZI, 0, ZI, ZI, ZI, ZL, ZI)) = some iS from h2, bd_some]
theorem X5_init : f_X5_init = some iM := by
  have h := lp_F (body := f_X5_init_L120) (fun i s => (nI i, s)) 16 (fun i => ((ZI, upTo i (fun _ => 15) ZI, 0, ZI, ZI, ZI, ZI, ZI, ZI, 0, 0, 0, 0, ZI, ZI, ZI, ZI, ZI, ZI) : ModelV)) id (fun i hi => by
    unfold f_X5_init_L120
    have c : ¬ (16 : Int32) ≤ nI i := lit_le (N := 16) (by omega) hi
    simp only [if_neg c, gd_t (ix_n hi (by omega : (16 : Nat) ≤ 65536)), cl_n (show i < 65536 by omega), nI_1, upTo_s i (fun _ => (15 : Int32))]) (by
    unfold f_X5_init_L120
    have c : (16 : Int32) ≤ nI 16 := by decide
    simp only [if_pos c]; rfl) fu 0 (by omega) (fu_lt (by omega))
  have h2 := lp_F (body := f_X5_init_L142) (fun i s => (nI i, s)) 512 (fun i => ((ZI, upTo 16 (fun _ => 15) ZI, 0, ZI, ZI, ZI, ZI, upTo i (fun _ => -6) ZI, ZI, 0, 0, 0, 0, ZI, ZI, ZI, ZI, ZI, ZI) : ModelV)) id (fun i hi => by
    unfold f_X5_init_L142
    have c : ¬ (512 : Int32) ≤ nI i := lit_le (N := 512) (by omega) hi
    simp only [if_neg c, gd_t (ix_n hi (by omega : (512 : Nat) ≤ 65536)), cl_n (show i < 65536 by omega), nI_1, upTo_s i (fun _ => (-6 : Int32))]) (by
    unfold f_X5_init_L142
    have c : (512 : Int32) ≤ nI 512 := by decide
    simp only [if_pos c]; rfl) fu 0 (by omega) (fu_lt (by omega))
  have e1 : upTo 0 (fun _ => (15 : Int32)) ZI = ZI := upTo_0 _ _
  have e2 : upTo 0 (fun _ => (-6 : Int32)) ZI = ZI := upTo_0 _ _
  rw [e1] at h
  rw [e2] at h2
  unfold f_X5_init
  rw [show lp f_X5_init_L120 fu (0, (ZI, ZI, 0, ZI, ZI, ZI, ZI, ZI, ZI, 0, 0, 0, 0, ZI, ZI, ZI, ZI, ZI, ZI)) = some (ZI, upTo 16 (fun _ => 15) ZI, 0, ZI, ZI, ZI, ZI, ZI, ZI, 0, 0, 0, 0, ZI, ZI, ZI, ZI, ZI, ZI) from h, bd_some]
  rw [show lp f_X5_init_L142 fu (0, (ZI, upTo 16 (fun _ => 15) ZI, 0, ZI, ZI, ZI, ZI, ZI, ZI, 0, 0, 0, 0, ZI, ZI, ZI, ZI, ZI, ZI)) = some iM from h2, bd_some]
theorem iS_SI : SI iS 0 := by
  refine ⟨by omega, rfl, fun y hy => ⟨by show 0 ≤ (0 : Int32).toInt ∧ (0 : Int32).toInt < 16; decide, ?_⟩, fun g hg => absurd hg (by omega), fun g hg => absurd hg (by omega), fun g d hg => absurd hg (by omega), fun g _ hg => ⟨rfl, rfl, fun d hd => ?_⟩, fun i j hi => absurd hi (by omega)⟩
  · have e : iS.2.1 y = 15 := upTo_lt (k := 16) (F := fun _ => (15 : Int32)) (O := ZI) hy
    rw [e]; show 0 ≤ (15 : Int32).toInt ∧ (15 : Int32).toInt < 16; decide
  · exact upTo_lt (k := 512) (F := fun _ => (-6 : Int32)) (O := ZI) (show g * 64 + d < 512 by omega)
theorem iM_MR : MRel iS 0 iM := ⟨fun y _ => ⟨rfl, rfl⟩, rfl, fun g hg => absurd hg (by omega)⟩
