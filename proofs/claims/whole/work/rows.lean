section
-- ===== PART A: goes FIRST, ahead of the names: the tables' words, and 'selects' of the private methods out of them =====
/-- a private method of a class that the tables say can be made, by its rows of tables_1 -/
def lw_okq (q : MethodName × Nat) : Prop := (q.1.cls ≠ "java/lang/invoke/MethodHandle" ∧ q.1.cls ≠ "java/lang/invoke/VarHandle") ∧ Cond.instantiable q.1.cls q.2 ∈ tables_1 ∧ Cond.privateMethod q.1 ∈ tables_1 ∧ Cond.instanceMethod q.1 ∈ tables_1
theorem lw_p0 : lw_okq (⟨"RainCells$Store", "putLast", "(I)LRainCells$Cells;"⟩, 7) := ⟨⟨by decide +kernel, by decide +kernel⟩, List.mem_of_getElem? (i := 68) (by decide +kernel), List.mem_of_getElem? (i := 300) (by decide +kernel), List.mem_of_getElem? (i := 301) (by decide +kernel)⟩
theorem lw_p1 : lw_okq (⟨"RainCells$Store", "room", "()LRainCells$Cells;"⟩, 7) := ⟨⟨by decide +kernel, by decide +kernel⟩, List.mem_of_getElem? (i := 68) (by decide +kernel), List.mem_of_getElem? (i := 304) (by decide +kernel), List.mem_of_getElem? (i := 305) (by decide +kernel)⟩
theorem lw_p2 : lw_okq (⟨"RainCells$Cells", "claim", "(LRainCells$Scene;I[I)V"⟩, 4) := ⟨⟨by decide +kernel, by decide +kernel⟩, List.mem_of_getElem? (i := 75) (by decide +kernel), List.mem_of_getElem? (i := 316) (by decide +kernel), List.mem_of_getElem? (i := 317) (by decide +kernel)⟩
theorem lw_p3 : lw_okq (⟨"RainCells", "cellsOn", "(I)LRainCells$Cells;"⟩, 5) := ⟨⟨by decide +kernel, by decide +kernel⟩, List.mem_of_getElem? (i := 11) (by decide +kernel), List.mem_of_getElem? (i := 329) (by decide +kernel), List.mem_of_getElem? (i := 330) (by decide +kernel)⟩
theorem lw_p4 : lw_okq (⟨"RainCells$Cells", "ownersAt", "(II)I"⟩, 4) := ⟨⟨by decide +kernel, by decide +kernel⟩, List.mem_of_getElem? (i := 75) (by decide +kernel), List.mem_of_getElem? (i := 359) (by decide +kernel), List.mem_of_getElem? (i := 360) (by decide +kernel)⟩
theorem lw_p5 : lw_okq (⟨"RainCells", "hasMean", "(I)Z"⟩, 5) := ⟨⟨by decide +kernel, by decide +kernel⟩, List.mem_of_getElem? (i := 11) (by decide +kernel), List.mem_of_getElem? (i := 374) (by decide +kernel), List.mem_of_getElem? (i := 375) (by decide +kernel)⟩
theorem lw_p6 : lw_okq (⟨"RainCells", "rainOn", "(I)I"⟩, 5) := ⟨⟨by decide +kernel, by decide +kernel⟩, List.mem_of_getElem? (i := 11) (by decide +kernel), List.mem_of_getElem? (i := 378) (by decide +kernel), List.mem_of_getElem? (i := 379) (by decide +kernel)⟩
theorem lw_p7 : lw_okq (⟨"RainCells$Search", "readRow", "(LRainCells$Scene;I)V"⟩, 8) := ⟨⟨by decide +kernel, by decide +kernel⟩, List.mem_of_getElem? (i := 128) (by decide +kernel), List.mem_of_getElem? (i := 406) (by decide +kernel), List.mem_of_getElem? (i := 407) (by decide +kernel)⟩
theorem lw_p8 : lw_okq (⟨"RainCells$Search", "tryAt", "(LRainCells$Scene;II)V"⟩, 8) := ⟨⟨by decide +kernel, by decide +kernel⟩, List.mem_of_getElem? (i := 128) (by decide +kernel), List.mem_of_getElem? (i := 415) (by decide +kernel), List.mem_of_getElem? (i := 416) (by decide +kernel)⟩
theorem lw_p9 : lw_okq (⟨"RainCells$Search", "farOfRow", "(LRainCells$Scene;III)I"⟩, 8) := ⟨⟨by decide +kernel, by decide +kernel⟩, List.mem_of_getElem? (i := 128) (by decide +kernel), List.mem_of_getElem? (i := 419) (by decide +kernel), List.mem_of_getElem? (i := 420) (by decide +kernel)⟩
theorem lw_p10 : lw_okq (⟨"RainCells", "rainOfOthers", "(IILRainCells$Cells;LRainCells$Cells;)I"⟩, 5) := ⟨⟨by decide +kernel, by decide +kernel⟩, List.mem_of_getElem? (i := 11) (by decide +kernel), List.mem_of_getElem? (i := 438) (by decide +kernel), List.mem_of_getElem? (i := 439) (by decide +kernel)⟩
theorem lw_p11 : lw_okq (⟨"RainCells", "isDoubted", "(III)Z"⟩, 5) := ⟨⟨by decide +kernel, by decide +kernel⟩, List.mem_of_getElem? (i := 11) (by decide +kernel), List.mem_of_getElem? (i := 447) (by decide +kernel), List.mem_of_getElem? (i := 448) (by decide +kernel)⟩
theorem lw_p12 : lw_okq (⟨"RainCellsModel", "plots", "()I"⟩, 19) := ⟨⟨by decide +kernel, by decide +kernel⟩, List.mem_of_getElem? (i := 478) (by decide +kernel), List.mem_of_getElem? (i := 550) (by decide +kernel), List.mem_of_getElem? (i := 551) (by decide +kernel)⟩
theorem lw_p13 : lw_okq (⟨"RainCellsModel", "gaugeAt", "(II)I"⟩, 19) := ⟨⟨by decide +kernel, by decide +kernel⟩, List.mem_of_getElem? (i := 478) (by decide +kernel), List.mem_of_getElem? (i := 561) (by decide +kernel), List.mem_of_getElem? (i := 562) (by decide +kernel)⟩
theorem lw_p14 : lw_okq (⟨"RainCellsModel", "isGauge", "(I)Z"⟩, 19) := ⟨⟨by decide +kernel, by decide +kernel⟩, List.mem_of_getElem? (i := 478) (by decide +kernel), List.mem_of_getElem? (i := 569) (by decide +kernel), List.mem_of_getElem? (i := 570) (by decide +kernel)⟩
theorem lw_p15 : lw_okq (⟨"RainCellsModel", "daysOut", "(I)I"⟩, 19) := ⟨⟨by decide +kernel, by decide +kernel⟩, List.mem_of_getElem? (i := 478) (by decide +kernel), List.mem_of_getElem? (i := 587) (by decide +kernel), List.mem_of_getElem? (i := 588) (by decide +kernel)⟩
def lw_privs_1 : List (MethodName × Nat) := [(⟨"RainCells$Store", "putLast", "(I)LRainCells$Cells;"⟩, 7), (⟨"RainCells$Store", "room", "()LRainCells$Cells;"⟩, 7), (⟨"RainCells$Cells", "claim", "(LRainCells$Scene;I[I)V"⟩, 4), (⟨"RainCells", "cellsOn", "(I)LRainCells$Cells;"⟩, 5), (⟨"RainCells$Cells", "ownersAt", "(II)I"⟩, 4), (⟨"RainCells", "hasMean", "(I)Z"⟩, 5), (⟨"RainCells", "rainOn", "(I)I"⟩, 5), (⟨"RainCells$Search", "readRow", "(LRainCells$Scene;I)V"⟩, 8), (⟨"RainCells$Search", "tryAt", "(LRainCells$Scene;II)V"⟩, 8), (⟨"RainCells$Search", "farOfRow", "(LRainCells$Scene;III)I"⟩, 8), (⟨"RainCells", "rainOfOthers", "(IILRainCells$Cells;LRainCells$Cells;)I"⟩, 5), (⟨"RainCells", "isDoubted", "(III)Z"⟩, 5), (⟨"RainCellsModel", "plots", "()I"⟩, 19), (⟨"RainCellsModel", "gaugeAt", "(II)I"⟩, 19), (⟨"RainCellsModel", "isGauge", "(I)Z"⟩, 19), (⟨"RainCellsModel", "daysOut", "(I)I"⟩, 19)]
theorem lw_r1 : ∀ q ∈ lw_privs_1, lw_okq q := List.forall_mem_cons.mpr ⟨lw_p0, List.forall_mem_cons.mpr ⟨lw_p1, List.forall_mem_cons.mpr ⟨lw_p2, List.forall_mem_cons.mpr ⟨lw_p3, List.forall_mem_cons.mpr ⟨lw_p4, List.forall_mem_cons.mpr ⟨lw_p5, List.forall_mem_cons.mpr ⟨lw_p6, List.forall_mem_cons.mpr ⟨lw_p7, List.forall_mem_cons.mpr ⟨lw_p8, List.forall_mem_cons.mpr ⟨lw_p9, List.forall_mem_cons.mpr ⟨lw_p10, List.forall_mem_cons.mpr ⟨lw_p11, List.forall_mem_cons.mpr ⟨lw_p12, List.forall_mem_cons.mpr ⟨lw_p13, List.forall_mem_cons.mpr ⟨lw_p14, List.forall_mem_cons.mpr ⟨lw_p15, fun _ h => absurd h List.not_mem_nil⟩⟩⟩⟩⟩⟩⟩⟩⟩⟩⟩⟩⟩⟩⟩⟩
theorem lw_p16 : lw_okq (⟨"RainCellsModel", "daysRead", "(I)I"⟩, 19) := ⟨⟨by decide +kernel, by decide +kernel⟩, List.mem_of_getElem? (i := 478) (by decide +kernel), List.mem_of_getElem? (i := 599) (by decide +kernel), List.mem_of_getElem? (i := 600) (by decide +kernel)⟩
theorem lw_p17 : lw_okq (⟨"RainCellsModel", "workingOn", "(I)I"⟩, 19) := ⟨⟨by decide +kernel, by decide +kernel⟩, List.mem_of_getElem? (i := 478) (by decide +kernel), List.mem_of_getElem? (i := 611) (by decide +kernel), List.mem_of_getElem? (i := 612) (by decide +kernel)⟩
theorem lw_p18 : lw_okq (⟨"RainCellsModel", "isPlot", "(II)Z"⟩, 19) := ⟨⟨by decide +kernel, by decide +kernel⟩, List.mem_of_getElem? (i := 478) (by decide +kernel), List.mem_of_getElem? (i := 619) (by decide +kernel), List.mem_of_getElem? (i := 620) (by decide +kernel)⟩
theorem lw_p19 : lw_okq (⟨"RainCellsModel", "lookUp", "(I)V"⟩, 19) := ⟨⟨by decide +kernel, by decide +kernel⟩, List.mem_of_getElem? (i := 478) (by decide +kernel), List.mem_of_getElem? (i := 623) (by decide +kernel), List.mem_of_getElem? (i := 624) (by decide +kernel)⟩
theorem lw_p20 : lw_okq (⟨"RainCellsModel", "ownerOf", "(III)I"⟩, 19) := ⟨⟨by decide +kernel, by decide +kernel⟩, List.mem_of_getElem? (i := 478) (by decide +kernel), List.mem_of_getElem? (i := 627) (by decide +kernel), List.mem_of_getElem? (i := 628) (by decide +kernel)⟩
theorem lw_p21 : lw_okq (⟨"RainCellsModel", "far", "(III)I"⟩, 19) := ⟨⟨by decide +kernel, by decide +kernel⟩, List.mem_of_getElem? (i := 478) (by decide +kernel), List.mem_of_getElem? (i := 631) (by decide +kernel), List.mem_of_getElem? (i := 632) (by decide +kernel)⟩
theorem lw_p22 : lw_okq (⟨"RainCellsModel", "size", "(II)I"⟩, 19) := ⟨⟨by decide +kernel, by decide +kernel⟩, List.mem_of_getElem? (i := 478) (by decide +kernel), List.mem_of_getElem? (i := 642) (by decide +kernel), List.mem_of_getElem? (i := 643) (by decide +kernel)⟩
theorem lw_p23 : lw_okq (⟨"RainCellsModel", "farOf", "(II)I"⟩, 19) := ⟨⟨by decide +kernel, by decide +kernel⟩, List.mem_of_getElem? (i := 478) (by decide +kernel), List.mem_of_getElem? (i := 646) (by decide +kernel), List.mem_of_getElem? (i := 647) (by decide +kernel)⟩
theorem lw_p24 : lw_okq (⟨"RainCellsModel", "sides", "(III)I"⟩, 19) := ⟨⟨by decide +kernel, by decide +kernel⟩, List.mem_of_getElem? (i := 478) (by decide +kernel), List.mem_of_getElem? (i := 660) (by decide +kernel), List.mem_of_getElem? (i := 661) (by decide +kernel)⟩
theorem lw_p25 : lw_okq (⟨"RainCellsModel", "at", "(III)I"⟩, 19) := ⟨⟨by decide +kernel, by decide +kernel⟩, List.mem_of_getElem? (i := 478) (by decide +kernel), List.mem_of_getElem? (i := 664) (by decide +kernel), List.mem_of_getElem? (i := 665) (by decide +kernel)⟩
theorem lw_p26 : lw_okq (⟨"RainCellsModel", "touching", "(IIII)I"⟩, 19) := ⟨⟨by decide +kernel, by decide +kernel⟩, List.mem_of_getElem? (i := 478) (by decide +kernel), List.mem_of_getElem? (i := 668) (by decide +kernel), List.mem_of_getElem? (i := 669) (by decide +kernel)⟩
theorem lw_p27 : lw_okq (⟨"RainCellsModel", "hasMean", "(I)Z"⟩, 19) := ⟨⟨by decide +kernel, by decide +kernel⟩, List.mem_of_getElem? (i := 478) (by decide +kernel), List.mem_of_getElem? (i := 680) (by decide +kernel), List.mem_of_getElem? (i := 681) (by decide +kernel)⟩
theorem lw_p28 : lw_okq (⟨"RainCellsModel", "water", "(I)I"⟩, 19) := ⟨⟨by decide +kernel, by decide +kernel⟩, List.mem_of_getElem? (i := 478) (by decide +kernel), List.mem_of_getElem? (i := 684) (by decide +kernel), List.mem_of_getElem? (i := 685) (by decide +kernel)⟩
theorem lw_p29 : lw_okq (⟨"RainCellsModel", "spreadWith", "(III)I"⟩, 19) := ⟨⟨by decide +kernel, by decide +kernel⟩, List.mem_of_getElem? (i := 478) (by decide +kernel), List.mem_of_getElem? (i := 700) (by decide +kernel), List.mem_of_getElem? (i := 701) (by decide +kernel)⟩
theorem lw_p30 : lw_okq (⟨"RainCellsModel", "lookUpBoth", "(II)V"⟩, 19) := ⟨⟨by decide +kernel, by decide +kernel⟩, List.mem_of_getElem? (i := 478) (by decide +kernel), List.mem_of_getElem? (i := 711) (by decide +kernel), List.mem_of_getElem? (i := 712) (by decide +kernel)⟩
theorem lw_p31 : lw_okq (⟨"RainCellsModel", "sharedOf", "(III)I"⟩, 19) := ⟨⟨by decide +kernel, by decide +kernel⟩, List.mem_of_getElem? (i := 478) (by decide +kernel), List.mem_of_getElem? (i := 715) (by decide +kernel), List.mem_of_getElem? (i := 716) (by decide +kernel)⟩
def lw_privs_2 : List (MethodName × Nat) := [(⟨"RainCellsModel", "daysRead", "(I)I"⟩, 19), (⟨"RainCellsModel", "workingOn", "(I)I"⟩, 19), (⟨"RainCellsModel", "isPlot", "(II)Z"⟩, 19), (⟨"RainCellsModel", "lookUp", "(I)V"⟩, 19), (⟨"RainCellsModel", "ownerOf", "(III)I"⟩, 19), (⟨"RainCellsModel", "far", "(III)I"⟩, 19), (⟨"RainCellsModel", "size", "(II)I"⟩, 19), (⟨"RainCellsModel", "farOf", "(II)I"⟩, 19), (⟨"RainCellsModel", "sides", "(III)I"⟩, 19), (⟨"RainCellsModel", "at", "(III)I"⟩, 19), (⟨"RainCellsModel", "touching", "(IIII)I"⟩, 19), (⟨"RainCellsModel", "hasMean", "(I)Z"⟩, 19), (⟨"RainCellsModel", "water", "(I)I"⟩, 19), (⟨"RainCellsModel", "spreadWith", "(III)I"⟩, 19), (⟨"RainCellsModel", "lookUpBoth", "(II)V"⟩, 19), (⟨"RainCellsModel", "sharedOf", "(III)I"⟩, 19)]
theorem lw_r2 : ∀ q ∈ lw_privs_2, lw_okq q := List.forall_mem_cons.mpr ⟨lw_p16, List.forall_mem_cons.mpr ⟨lw_p17, List.forall_mem_cons.mpr ⟨lw_p18, List.forall_mem_cons.mpr ⟨lw_p19, List.forall_mem_cons.mpr ⟨lw_p20, List.forall_mem_cons.mpr ⟨lw_p21, List.forall_mem_cons.mpr ⟨lw_p22, List.forall_mem_cons.mpr ⟨lw_p23, List.forall_mem_cons.mpr ⟨lw_p24, List.forall_mem_cons.mpr ⟨lw_p25, List.forall_mem_cons.mpr ⟨lw_p26, List.forall_mem_cons.mpr ⟨lw_p27, List.forall_mem_cons.mpr ⟨lw_p28, List.forall_mem_cons.mpr ⟨lw_p29, List.forall_mem_cons.mpr ⟨lw_p30, List.forall_mem_cons.mpr ⟨lw_p31, fun _ h => absurd h List.not_mem_nil⟩⟩⟩⟩⟩⟩⟩⟩⟩⟩⟩⟩⟩⟩⟩⟩
theorem lw_p32 : lw_okq (⟨"RainCellsModel", "sharedWater", "(II)I"⟩, 19) := ⟨⟨by decide +kernel, by decide +kernel⟩, List.mem_of_getElem? (i := 478) (by decide +kernel), List.mem_of_getElem? (i := 723) (by decide +kernel), List.mem_of_getElem? (i := 724) (by decide +kernel)⟩
def lw_privs_3 : List (MethodName × Nat) := [(⟨"RainCellsModel", "sharedWater", "(II)I"⟩, 19)]
theorem lw_r3 : ∀ q ∈ lw_privs_3, lw_okq q := List.forall_mem_cons.mpr ⟨lw_p32, fun _ h => absurd h List.not_mem_nil⟩
def lw_privs : List (MethodName × Nat) := lw_privs_1 ++ (lw_privs_2 ++ (lw_privs_3))
def lw_tbl : List Cond := k2_sels lw_privs ++ tables_1
theorem lw_privs_ok : ∀ q ∈ lw_privs, lw_okq q := by
  show ∀ q ∈ lw_privs_1 ++ (lw_privs_2 ++ (lw_privs_3)), lw_okq q
  exact List.forall_mem_append.mpr ⟨lw_r1, List.forall_mem_append.mpr ⟨lw_r2, lw_r3⟩⟩
end
section
/-! ===== BEGIN words of one list among another's, by their places ===== -/
theorem goodIn_r {big : List Cond} (ws : List Cond) (ps : List Nat) (hp : ws = ps.filterMap (fun i => big[i]?)) (h : ws.all goodWord = true) : GoodIn big ws := by
  intro w hw
  have h1 := List.all_eq_true.mp h w hw
  rw [hp] at hw
  obtain ⟨i, -, hi⟩ := List.mem_filterMap.mp hw
  have hm : w ∈ big := by first | exact List.mem_of_getElem? hi | exact List.getElem?_mem hi
  exact ⟨hm, good_of_word h1⟩
theorem goodIn_app {big a b : List Cond} (ha : GoodIn big a) (hb : GoodIn big b) : GoodIn big (a ++ b) := fun w h => (List.mem_append.mp h).elim (ha w) (hb w)
theorem goodIn_ca {big a b : List Cond} {c : Cond} (ha : GoodIn big (c :: a)) (hb : GoodIn big b) : GoodIn big (c :: (a ++ b)) := fun w h => (List.mem_cons.mp h).elim (fun e => ha w (List.mem_cons.mpr (Or.inl e))) (fun h => (List.mem_append.mp h).elim (fun h => ha w (List.mem_cons.mpr (Or.inr h))) (hb w))
theorem goodIn_sub {big ws : List Cond} (hm : ∀ w ∈ ws, w ∈ big) (h : ws.all goodWord = true) : GoodIn big ws := fun w hw => ⟨hm w hw, good_of_word (List.all_eq_true.mp h w hw)⟩
/-! ===== END ===== -/

/-! ===== BEGIN printed: names, fields, word lists, decode rows ===== -/
def RX0 : String := "RainCells$Cells"
def TX0 : u_T := fun k => match k with
  | 0 => ("RainCells$Cells", "set", "I", false)
  | 1 => ("RainCells$Cells", "owners", "[I", true)
  | 2 => ("RainCells$Cells", "plots", "[I", true)
  | _ => ("RainCells$Cells", "fars", "[I", true)
def tyX0 : Nat → FieldType := fun k => match k with
  | 0 => .int
  | 1 => .array .int
  | 2 => .array .int
  | _ => .array .int
abbrev wsX00 : List Cond := u_ws RX0 TX0 4
theorem nmX0 : ∀ a, a < 4 → ∀ b, b < 4 → a ≠ b → (TX0 a).2.1 ≠ (TX0 b).2.1 := by decide +kernel
theorem tyX0_ok : ∀ k, k < 4 → parseFieldDescriptor (TX0 k).2.2.1 = some (tyX0 k) := by decide +kernel
abbrev cX0_init : ByteArray := prog_2_method_1_code
def yX0_init : MethodName := ⟨RX0, "<init>", "()V"⟩
abbrev cX0_workOut : ByteArray := prog_2_method_2_code
def yX0_workOut : MethodName := ⟨RX0, "workOut", "(LRainCells$Scene;I[I)V"⟩
abbrev cX0_claim : ByteArray := prog_2_method_3_code
def yX0_claim : MethodName := ⟨RX0, "claim", "(LRainCells$Scene;I[I)V"⟩
abbrev cX0_ownerAt : ByteArray := prog_2_method_4_code
def yX0_ownerAt : MethodName := ⟨RX0, "ownerAt", "(II)I"⟩
abbrev cX0_farOfAll : ByteArray := prog_2_method_5_code
def yX0_farOfAll : MethodName := ⟨RX0, "farOfAll", "()I"⟩
abbrev cX0_sidesTo : ByteArray := prog_2_method_6_code
def yX0_sidesTo : MethodName := ⟨RX0, "sidesTo", "(II)I"⟩
abbrev cX0_touching : ByteArray := prog_2_method_7_code
def yX0_touching : MethodName := ⟨RX0, "touching", "(I)I"⟩
abbrev cX0_ownersAt : ByteArray := prog_2_method_8_code
def yX0_ownersAt : MethodName := ⟨RX0, "ownersAt", "(II)I"⟩
abbrev cX0_inBoth : ByteArray := prog_2_method_9_code
def yX0_inBoth : MethodName := ⟨RX0, "inBoth", "(ILRainCells$Cells;I)I"⟩
def RX1 : String := "RainCells$Scene"
def TX1 : u_T := fun k => match k with
  | 0 => ("RainCells$Scene", "rowFrom", "[I", true)
  | 1 => ("RainCells$Scene", "rowTo", "[I", true)
  | 2 => ("RainCells$Scene", "gauges", "I", false)
  | 3 => ("RainCells$Scene", "placeX", "[I", true)
  | 4 => ("RainCells$Scene", "placeY", "[I", true)
  | 5 => ("RainCells$Scene", "reaches", "[I", true)
  | 6 => ("RainCells$Scene", "out", "[J", true)
  | _ => ("RainCells$Scene", "readings", "[I", true)
def tyX1 : Nat → FieldType := fun k => match k with
  | 0 => .array .int
  | 1 => .array .int
  | 2 => .int
  | 3 => .array .int
  | 4 => .array .int
  | 5 => .array .int
  | 6 => .array .long
  | _ => .array .int
abbrev wsX10 : List Cond := u_ws RX1 TX1 8
theorem nmX1 : ∀ a, a < 8 → ∀ b, b < 8 → a ≠ b → (TX1 a).2.1 ≠ (TX1 b).2.1 := by decide +kernel
theorem tyX1_ok : ∀ k, k < 8 → parseFieldDescriptor (TX1 k).2.2.1 = some (tyX1 k) := by decide +kernel
abbrev cX1_init : ByteArray := prog_3_method_1_code
def yX1_init : MethodName := ⟨RX1, "<init>", "()V"⟩
abbrev cX1_copyFrom : ByteArray := prog_3_method_2_code
def yX1_copyFrom : MethodName := ⟨RX1, "copyFrom", "(LRainCells$Scene;)V"⟩
abbrev cX1_rowHasPlots : ByteArray := prog_3_method_3_code
def yX1_rowHasPlots : MethodName := ⟨RX1, "rowHasPlots", "(I)Z"⟩
abbrev cX1_hasPlot : ByteArray := prog_3_method_4_code
def yX1_hasPlot : MethodName := ⟨RX1, "hasPlot", "(II)Z"⟩
abbrev cX1_plotCount : ByteArray := prog_3_method_5_code
def yX1_plotCount : MethodName := ⟨RX1, "plotCount", "()I"⟩
abbrev cX1_knows : ByteArray := prog_3_method_6_code
def yX1_knows : MethodName := ⟨RX1, "knows", "(I)Z"⟩
abbrev cX1_gaugeAt : ByteArray := prog_3_method_7_code
def yX1_gaugeAt : MethodName := ⟨RX1, "gaugeAt", "(II)I"⟩
abbrev cX1_farFrom : ByteArray := prog_3_method_8_code
def yX1_farFrom : MethodName := ⟨RX1, "farFrom", "(III)I"⟩
abbrev cX1_putOut : ByteArray := prog_3_method_9_code
def yX1_putOut : MethodName := ⟨RX1, "putOut", "(IIZ)V"⟩
abbrev cX1_daysOut : ByteArray := prog_3_method_10_code
def yX1_daysOut : MethodName := ⟨RX1, "daysOut", "(I)I"⟩
abbrev cX1_daysRead : ByteArray := prog_3_method_11_code
def yX1_daysRead : MethodName := ⟨RX1, "daysRead", "(I)I"⟩
abbrev cX1_readingOf : ByteArray := prog_3_method_12_code
def yX1_readingOf : MethodName := ⟨RX1, "readingOf", "(II)I"⟩
abbrev cX1_putReading : ByteArray := prog_3_method_13_code
def yX1_putReading : MethodName := ⟨RX1, "putReading", "(III)V"⟩
abbrev cX1_workingOn : ByteArray := prog_3_method_14_code
def yX1_workingOn : MethodName := ⟨RX1, "workingOn", "(I)I"⟩
def RX2 : String := "RainCells$Search"
def TX2 : u_T := fun k => match k with
  | 0 => ("RainCells$Search", "least", "I", false)
  | 1 => ("RainCells$Search", "leastX", "I", false)
  | 2 => ("RainCells$Search", "leastY", "I", false)
  | 3 => ("RainCells$Search", "cells", "LRainCells$Cells;", true)
  | 4 => ("RainCells$Search", "lefts", "[I", true)
  | 5 => ("RainCells$Search", "fars", "[I", true)
  | 6 => ("RainCells$Search", "rowMost", "[I", true)
  | _ => ("RainCells$Search", "rowFar", "[I", true)
def tyX2 : Nat → FieldType := fun k => match k with
  | 0 => .int
  | 1 => .int
  | 2 => .int
  | 3 => .object "RainCells$Cells"
  | 4 => .array .int
  | 5 => .array .int
  | 6 => .array .int
  | _ => .array .int
abbrev wsX20 : List Cond := u_ws RX2 TX2 8
theorem nmX2 : ∀ a, a < 8 → ∀ b, b < 8 → a ≠ b → (TX2 a).2.1 ≠ (TX2 b).2.1 := by decide +kernel
theorem tyX2_ok : ∀ k, k < 8 → parseFieldDescriptor (TX2 k).2.2.1 = some (tyX2 k) := by decide +kernel
abbrev cX2_init : ByteArray := prog_4_method_1_code
def yX2_init : MethodName := ⟨RX2, "<init>", "()V"⟩
abbrev cX2_run : ByteArray := prog_4_method_2_code
def yX2_run : MethodName := ⟨RX2, "run", "(LRainCells$Scene;I)V"⟩
abbrev cX2_readRow : ByteArray := prog_4_method_3_code
def yX2_readRow : MethodName := ⟨RX2, "readRow", "(LRainCells$Scene;I)V"⟩
abbrev cX2_tryAt : ByteArray := prog_4_method_4_code
def yX2_tryAt : MethodName := ⟨RX2, "tryAt", "(LRainCells$Scene;II)V"⟩
abbrev cX2_farOfRow : ByteArray := prog_4_method_5_code
def yX2_farOfRow : MethodName := ⟨RX2, "farOfRow", "(LRainCells$Scene;III)I"⟩
def RX3 : String := "RainCells$Store"
def TX3 : u_T := fun k => match k with
  | 0 => ("RainCells$Store", "cells", "[LRainCells$Cells;", true)
  | 1 => ("RainCells$Store", "size", "I", false)
  | 2 => ("RainCells$Store", "found", "I", false)
  | 3 => ("RainCells$Store", "workedOut", "I", false)
  | 4 => ("RainCells$Store", "replaced", "I", false)
  | 5 => ("RainCells$Store", "empty", "LRainCells$Cells;", true)
  | _ => ("RainCells$Store", "lefts", "[I", true)
def tyX3 : Nat → FieldType := fun k => match k with
  | 0 => .array (.object "RainCells$Cells")
  | 1 => .int
  | 2 => .int
  | 3 => .int
  | 4 => .int
  | 5 => .object "RainCells$Cells"
  | _ => .array .int
abbrev wsX30 : List Cond := u_ws RX3 TX3 7
theorem nmX3 : ∀ a, a < 7 → ∀ b, b < 7 → a ≠ b → (TX3 a).2.1 ≠ (TX3 b).2.1 := by decide +kernel
theorem tyX3_ok : ∀ k, k < 7 → parseFieldDescriptor (TX3 k).2.2.1 = some (tyX3 k) := by decide +kernel
abbrev cX3_init : ByteArray := prog_5_method_1_code
def yX3_init : MethodName := ⟨RX3, "<init>", "()V"⟩
abbrev cX3_letAllGo : ByteArray := prog_5_method_2_code
def yX3_letAllGo : MethodName := ⟨RX3, "letAllGo", "()V"⟩
abbrev cX3_lookUp : ByteArray := prog_5_method_3_code
def yX3_lookUp : MethodName := ⟨RX3, "lookUp", "(LRainCells$Scene;I)LRainCells$Cells;"⟩
abbrev cX3_room : ByteArray := prog_5_method_4_code
def yX3_room : MethodName := ⟨RX3, "room", "()LRainCells$Cells;"⟩
abbrev cX3_putLast : ByteArray := prog_5_method_5_code
def yX3_putLast : MethodName := ⟨RX3, "putLast", "(I)LRainCells$Cells;"⟩
def RX4 : String := "RainCells"
def TX4 : u_T := fun k => match k with
  | 0 => ("RainCells", "scene", "LRainCells$Scene;", true)
  | 1 => ("RainCells", "images", "[LRainCells$Scene;", true)
  | 2 => ("RainCells", "imagesKept", "I", false)
  | 3 => ("RainCells", "store", "LRainCells$Store;", true)
  | _ => ("RainCells", "search", "LRainCells$Search;", true)
def tyX4 : Nat → FieldType := fun k => match k with
  | 0 => .object "RainCells$Scene"
  | 1 => .array (.object "RainCells$Scene")
  | 2 => .int
  | 3 => .object "RainCells$Store"
  | _ => .object "RainCells$Search"
abbrev wsX40 : List Cond := u_ws RX4 TX4 5
theorem nmX4 : ∀ a, a < 5 → ∀ b, b < 5 → a ≠ b → (TX4 a).2.1 ≠ (TX4 b).2.1 := by decide +kernel
theorem tyX4_ok : ∀ k, k < 5 → parseFieldDescriptor (TX4 k).2.2.1 = some (tyX4 k) := by decide +kernel
abbrev cX4_init : ByteArray := prog_1_method_1_code
def yX4_init : MethodName := ⟨RX4, "<init>", "()V"⟩
abbrev cX4_row : ByteArray := prog_1_method_2_code
def yX4_row : MethodName := ⟨RX4, "row", "(III)I"⟩
abbrev cX4_gauge : ByteArray := prog_1_method_3_code
def yX4_gauge : MethodName := ⟨RX4, "gauge", "(II)I"⟩
abbrev cX4_move : ByteArray := prog_1_method_4_code
def yX4_move : MethodName := ⟨RX4, "move", "(III)I"⟩
abbrev cX4_reach : ByteArray := prog_1_method_5_code
def yX4_reach : MethodName := ⟨RX4, "reach", "(II)I"⟩
abbrev cX4_fail : ByteArray := prog_1_method_6_code
def yX4_fail : MethodName := ⟨RX4, "fail", "(IIII)I"⟩
abbrev cX4_rain : ByteArray := prog_1_method_7_code
def yX4_rain : MethodName := ⟨RX4, "rain", "(III)I"⟩
abbrev cX4_of : ByteArray := prog_1_method_8_code
def yX4_of : MethodName := ⟨RX4, "of", "(II)I"⟩
abbrev cX4_reading : ByteArray := prog_1_method_9_code
def yX4_reading : MethodName := ⟨RX4, "reading", "(II)I"⟩
abbrev cX4_working : ByteArray := prog_1_method_10_code
def yX4_working : MethodName := ⟨RX4, "working", "(I)I"⟩
abbrev cX4_owner : ByteArray := prog_1_method_11_code
def yX4_owner : MethodName := ⟨RX4, "owner", "(III)I"⟩
abbrev cX4_cell : ByteArray := prog_1_method_12_code
def yX4_cell : MethodName := ⟨RX4, "cell", "(III)I"⟩
abbrev cX4_border : ByteArray := prog_1_method_13_code
def yX4_border : MethodName := ⟨RX4, "border", "(III)I"⟩
abbrev cX4_neighbours : ByteArray := prog_1_method_14_code
def yX4_neighbours : MethodName := ⟨RX4, "neighbours", "(II)I"⟩
abbrev cX4_mean : ByteArray := prog_1_method_15_code
def yX4_mean : MethodName := ⟨RX4, "mean", "(II)I"⟩
abbrev cX4_total : ByteArray := prog_1_method_16_code
def yX4_total : MethodName := ⟨RX4, "total", "(III)I"⟩
abbrev cX4_spread : ByteArray := prog_1_method_17_code
def yX4_spread : MethodName := ⟨RX4, "spread", "(I)I"⟩
abbrev cX4_next : ByteArray := prog_1_method_18_code
def yX4_next : MethodName := ⟨RX4, "next", "(II)I"⟩
abbrev cX4_shared : ByteArray := prog_1_method_19_code
def yX4_shared : MethodName := ⟨RX4, "shared", "(III)I"⟩
abbrev cX4_estimate : ByteArray := prog_1_method_20_code
def yX4_estimate : MethodName := ⟨RX4, "estimate", "(III)I"⟩
abbrev cX4_doubt : ByteArray := prog_1_method_21_code
def yX4_doubt : MethodName := ⟨RX4, "doubt", "(II)I"⟩
abbrev cX4_kept : ByteArray := prog_1_method_22_code
def yX4_kept : MethodName := ⟨RX4, "kept", "(I)I"⟩
abbrev cX4_image : ByteArray := prog_1_method_23_code
def yX4_image : MethodName := ⟨RX4, "image", "(I)I"⟩
abbrev cX4_restore : ByteArray := prog_1_method_24_code
def yX4_restore : MethodName := ⟨RX4, "restore", "(I)I"⟩
abbrev cX4_count : ByteArray := prog_1_method_25_code
def yX4_count : MethodName := ⟨RX4, "count", "(I)I"⟩
abbrev cX4_isPlot : ByteArray := prog_1_method_26_code
def yX4_isPlot : MethodName := ⟨RX4, "isPlot", "(II)Z"⟩
abbrev cX4_isPlace : ByteArray := prog_1_method_27_code
def yX4_isPlace : MethodName := ⟨RX4, "isPlace", "(II)Z"⟩
abbrev cX4_isDay : ByteArray := prog_1_method_28_code
def yX4_isDay : MethodName := ⟨RX4, "isDay", "(I)Z"⟩
abbrev cX4_areDays : ByteArray := prog_1_method_29_code
def yX4_areDays : MethodName := ⟨RX4, "areDays", "(II)Z"⟩
abbrev cX4_isPart : ByteArray := prog_1_method_30_code
def yX4_isPart : MethodName := ⟨RX4, "isPart", "(I)Z"⟩
abbrev cX4_isIn : ByteArray := prog_1_method_31_code
def yX4_isIn : MethodName := ⟨RX4, "isIn", "(II)Z"⟩
abbrev cX4_with : ByteArray := prog_1_method_32_code
def yX4_with : MethodName := ⟨RX4, "with", "(II)I"⟩
abbrev cX4_without : ByteArray := prog_1_method_33_code
def yX4_without : MethodName := ⟨RX4, "without", "(II)I"⟩
abbrev cX4_part : ByteArray := prog_1_method_34_code
def yX4_part : MethodName := ⟨RX4, "part", "(III)I"⟩
abbrev cX4_upper : ByteArray := prog_1_method_35_code
def yX4_upper : MethodName := ⟨RX4, "upper", "(II)I"⟩
abbrev cX4_lower : ByteArray := prog_1_method_36_code
def yX4_lower : MethodName := ⟨RX4, "lower", "(II)I"⟩
abbrev cX4_commonDivisor : ByteArray := prog_1_method_37_code
def yX4_commonDivisor : MethodName := ⟨RX4, "commonDivisor", "(II)I"⟩
abbrev cX4_cellsOn : ByteArray := prog_1_method_38_code
def yX4_cellsOn : MethodName := ⟨RX4, "cellsOn", "(I)LRainCells$Cells;"⟩
abbrev cX4_hasMean : ByteArray := prog_1_method_39_code
def yX4_hasMean : MethodName := ⟨RX4, "hasMean", "(I)Z"⟩
abbrev cX4_rainOn : ByteArray := prog_1_method_40_code
def yX4_rainOn : MethodName := ⟨RX4, "rainOn", "(I)I"⟩
abbrev cX4_rainOfOthers : ByteArray := prog_1_method_41_code
def yX4_rainOfOthers : MethodName := ⟨RX4, "rainOfOthers", "(IILRainCells$Cells;LRainCells$Cells;)I"⟩
abbrev cX4_isDoubted : ByteArray := prog_1_method_42_code
def yX4_isDoubted : MethodName := ⟨RX4, "isDoubted", "(III)Z"⟩
def RX5 : String := "RainCellsModel"
def TX5 : u_T := fun k => match k with
  | 0 => ("RainCellsModel", "from", "[I", true)
  | 1 => ("RainCellsModel", "to", "[I", true)
  | 2 => ("RainCellsModel", "many", "I", false)
  | 3 => ("RainCellsModel", "px", "[I", true)
  | 4 => ("RainCellsModel", "py", "[I", true)
  | 5 => ("RainCellsModel", "reach", "[I", true)
  | 6 => ("RainCellsModel", "isOut", "[Z", true)
  | 7 => ("RainCellsModel", "readings", "[I", true)
  | 8 => ("RainCellsModel", "sets", "[I", true)
  | 9 => ("RainCellsModel", "kept", "I", false)
  | 10 => ("RainCellsModel", "found", "I", false)
  | 11 => ("RainCellsModel", "worked", "I", false)
  | 12 => ("RainCellsModel", "gone", "I", false)
  | 13 => ("RainCellsModel", "isKept", "[Z", true)
  | 14 => ("RainCellsModel", "imageRows", "[I", true)
  | 15 => ("RainCellsModel", "imageMany", "[I", true)
  | 16 => ("RainCellsModel", "imageGauges", "[I", true)
  | 17 => ("RainCellsModel", "imageOut", "[Z", true)
  | _ => ("RainCellsModel", "imageReadings", "[I", true)
def tyX5 : Nat → FieldType := fun k => match k with
  | 0 => .array .int
  | 1 => .array .int
  | 2 => .int
  | 3 => .array .int
  | 4 => .array .int
  | 5 => .array .int
  | 6 => .array .boolean
  | 7 => .array .int
  | 8 => .array .int
  | 9 => .int
  | 10 => .int
  | 11 => .int
  | 12 => .int
  | 13 => .array .boolean
  | 14 => .array .int
  | 15 => .array .int
  | 16 => .array .int
  | 17 => .array .boolean
  | _ => .array .int
abbrev wsX50 : List Cond := u_ws RX5 TX5 19
theorem nmX5 : ∀ a, a < 19 → ∀ b, b < 19 → a ≠ b → (TX5 a).2.1 ≠ (TX5 b).2.1 := by decide +kernel
theorem tyX5_ok : ∀ k, k < 19 → parseFieldDescriptor (TX5 k).2.2.1 = some (tyX5 k) := by decide +kernel
abbrev cX5_init : ByteArray := prog_7_method_1_code
def yX5_init : MethodName := ⟨RX5, "<init>", "()V"⟩
abbrev cX5_in : ByteArray := prog_7_method_2_code
def yX5_in : MethodName := ⟨RX5, "in", "(III)Z"⟩
abbrev cX5_square : ByteArray := prog_7_method_3_code
def yX5_square : MethodName := ⟨RX5, "square", "(I)I"⟩
abbrev cX5_isGauge : ByteArray := prog_7_method_4_code
def yX5_isGauge : MethodName := ⟨RX5, "isGauge", "(I)Z"⟩
abbrev cX5_isDay : ByteArray := prog_7_method_5_code
def yX5_isDay : MethodName := ⟨RX5, "isDay", "(I)Z"⟩
abbrev cX5_isPlot : ByteArray := prog_7_method_6_code
def yX5_isPlot : MethodName := ⟨RX5, "isPlot", "(II)Z"⟩
abbrev cX5_plots : ByteArray := prog_7_method_7_code
def yX5_plots : MethodName := ⟨RX5, "plots", "()I"⟩
abbrev cX5_has : ByteArray := prog_7_method_8_code
def yX5_has : MethodName := ⟨RX5, "has", "(II)Z"⟩
abbrev cX5_row : ByteArray := prog_7_method_9_code
def yX5_row : MethodName := ⟨RX5, "row", "(III)I"⟩
abbrev cX5_isPlace : ByteArray := prog_7_method_10_code
def yX5_isPlace : MethodName := ⟨RX5, "isPlace", "(II)Z"⟩
abbrev cX5_gaugeAt : ByteArray := prog_7_method_11_code
def yX5_gaugeAt : MethodName := ⟨RX5, "gaugeAt", "(II)I"⟩
abbrev cX5_gauge : ByteArray := prog_7_method_12_code
def yX5_gauge : MethodName := ⟨RX5, "gauge", "(II)I"⟩
abbrev cX5_move : ByteArray := prog_7_method_13_code
def yX5_move : MethodName := ⟨RX5, "move", "(III)I"⟩
abbrev cX5_reach : ByteArray := prog_7_method_14_code
def yX5_reach : MethodName := ⟨RX5, "reach", "(II)I"⟩
abbrev cX5_daysOut : ByteArray := prog_7_method_15_code
def yX5_daysOut : MethodName := ⟨RX5, "daysOut", "(I)I"⟩
abbrev cX5_fail : ByteArray := prog_7_method_16_code
def yX5_fail : MethodName := ⟨RX5, "fail", "(IIII)I"⟩
abbrev cX5_rain : ByteArray := prog_7_method_17_code
def yX5_rain : MethodName := ⟨RX5, "rain", "(III)I"⟩
abbrev cX5_daysRead : ByteArray := prog_7_method_18_code
def yX5_daysRead : MethodName := ⟨RX5, "daysRead", "(I)I"⟩
abbrev cX5_of : ByteArray := prog_7_method_19_code
def yX5_of : MethodName := ⟨RX5, "of", "(II)I"⟩
abbrev cX5_reading : ByteArray := prog_7_method_20_code
def yX5_reading : MethodName := ⟨RX5, "reading", "(II)I"⟩
abbrev cX5_workingOn : ByteArray := prog_7_method_21_code
def yX5_workingOn : MethodName := ⟨RX5, "workingOn", "(I)I"⟩
abbrev cX5_working : ByteArray := prog_7_method_22_code
def yX5_working : MethodName := ⟨RX5, "working", "(I)I"⟩
abbrev cX5_far : ByteArray := prog_7_method_23_code
def yX5_far : MethodName := ⟨RX5, "far", "(III)I"⟩
abbrev cX5_ownerOf : ByteArray := prog_7_method_24_code
def yX5_ownerOf : MethodName := ⟨RX5, "ownerOf", "(III)I"⟩
abbrev cX5_lookUp : ByteArray := prog_7_method_25_code
def yX5_lookUp : MethodName := ⟨RX5, "lookUp", "(I)V"⟩
abbrev cX5_owner : ByteArray := prog_7_method_26_code
def yX5_owner : MethodName := ⟨RX5, "owner", "(III)I"⟩
abbrev cX5_size : ByteArray := prog_7_method_27_code
def yX5_size : MethodName := ⟨RX5, "size", "(II)I"⟩
abbrev cX5_common : ByteArray := prog_7_method_28_code
def yX5_common : MethodName := ⟨RX5, "common", "(II)I"⟩
abbrev cX5_part : ByteArray := prog_7_method_29_code
def yX5_part : MethodName := ⟨RX5, "part", "(III)I"⟩
abbrev cX5_farOf : ByteArray := prog_7_method_30_code
def yX5_farOf : MethodName := ⟨RX5, "farOf", "(II)I"⟩
abbrev cX5_cell : ByteArray := prog_7_method_31_code
def yX5_cell : MethodName := ⟨RX5, "cell", "(III)I"⟩
abbrev cX5_at : ByteArray := prog_7_method_32_code
def yX5_at : MethodName := ⟨RX5, "at", "(III)I"⟩
abbrev cX5_touching : ByteArray := prog_7_method_33_code
def yX5_touching : MethodName := ⟨RX5, "touching", "(IIII)I"⟩
abbrev cX5_sides : ByteArray := prog_7_method_34_code
def yX5_sides : MethodName := ⟨RX5, "sides", "(III)I"⟩
abbrev cX5_border : ByteArray := prog_7_method_35_code
def yX5_border : MethodName := ⟨RX5, "border", "(III)I"⟩
abbrev cX5_neighbours : ByteArray := prog_7_method_36_code
def yX5_neighbours : MethodName := ⟨RX5, "neighbours", "(II)I"⟩
abbrev cX5_hasMean : ByteArray := prog_7_method_37_code
def yX5_hasMean : MethodName := ⟨RX5, "hasMean", "(I)Z"⟩
abbrev cX5_water : ByteArray := prog_7_method_38_code
def yX5_water : MethodName := ⟨RX5, "water", "(I)I"⟩
abbrev cX5_mean : ByteArray := prog_7_method_39_code
def yX5_mean : MethodName := ⟨RX5, "mean", "(II)I"⟩
abbrev cX5_total : ByteArray := prog_7_method_40_code
def yX5_total : MethodName := ⟨RX5, "total", "(III)I"⟩
abbrev cX5_spread : ByteArray := prog_7_method_41_code
def yX5_spread : MethodName := ⟨RX5, "spread", "(I)I"⟩
abbrev cX5_spreadWith : ByteArray := prog_7_method_42_code
def yX5_spreadWith : MethodName := ⟨RX5, "spreadWith", "(III)I"⟩
abbrev cX5_next : ByteArray := prog_7_method_43_code
def yX5_next : MethodName := ⟨RX5, "next", "(II)I"⟩
abbrev cX5_sharedOf : ByteArray := prog_7_method_44_code
def yX5_sharedOf : MethodName := ⟨RX5, "sharedOf", "(III)I"⟩
abbrev cX5_without : ByteArray := prog_7_method_45_code
def yX5_without : MethodName := ⟨RX5, "without", "(II)I"⟩
abbrev cX5_lookUpBoth : ByteArray := prog_7_method_46_code
def yX5_lookUpBoth : MethodName := ⟨RX5, "lookUpBoth", "(II)V"⟩
abbrev cX5_shared : ByteArray := prog_7_method_47_code
def yX5_shared : MethodName := ⟨RX5, "shared", "(III)I"⟩
abbrev cX5_sharedWater : ByteArray := prog_7_method_48_code
def yX5_sharedWater : MethodName := ⟨RX5, "sharedWater", "(II)I"⟩
abbrev cX5_estimate : ByteArray := prog_7_method_49_code
def yX5_estimate : MethodName := ⟨RX5, "estimate", "(III)I"⟩
abbrev cX5_doubt : ByteArray := prog_7_method_50_code
def yX5_doubt : MethodName := ⟨RX5, "doubt", "(II)I"⟩
abbrev cX5_kept : ByteArray := prog_7_method_51_code
def yX5_kept : MethodName := ⟨RX5, "kept", "(I)I"⟩
abbrev cX5_image : ByteArray := prog_7_method_52_code
def yX5_image : MethodName := ⟨RX5, "image", "(I)I"⟩
abbrev cX5_restore : ByteArray := prog_7_method_53_code
def yX5_restore : MethodName := ⟨RX5, "restore", "(I)I"⟩
abbrev cX5_count : ByteArray := prog_7_method_54_code
def yX5_count : MethodName := ⟨RX5, "count", "(I)I"⟩
def RJ13 : String := "java/lang/Long"
def TJ13 : u_T := fun k => match k with
  | _ => ("", "", "", false)
def tyJ13 : Nat → FieldType := fun k => match k with
  | _ => .int
abbrev wsJ130 : List Cond := u_ws RJ13 TJ13 0
theorem nmJ13 : ∀ a, a < 0 → ∀ b, b < 0 → a ≠ b → (TJ13 a).2.1 ≠ (TJ13 b).2.1 := by decide +kernel
theorem tyJ13_ok : ∀ k, k < 0 → parseFieldDescriptor (TJ13 k).2.2.1 = some (tyJ13 k) := by decide +kernel
abbrev cJ13_bitCount_95d88 : ByteArray := prog_8_method_50_code
def yJ13_bitCount_95d88 : MethodName := ⟨RJ13, "bitCount", "(J)I"⟩
def RJ9 : String := "java/lang/Math"
def TJ9 : u_T := fun k => match k with
  | _ => ("", "", "", false)
def tyJ9 : Nat → FieldType := fun k => match k with
  | _ => .int
abbrev wsJ90 : List Cond := u_ws RJ9 TJ9 0
theorem nmJ9 : ∀ a, a < 0 → ∀ b, b < 0 → a ≠ b → (TJ9 a).2.1 ≠ (TJ9 b).2.1 := by decide +kernel
theorem tyJ9_ok : ∀ k, k < 0 → parseFieldDescriptor (TJ9 k).2.2.1 = some (tyJ9 k) := by decide +kernel
abbrev cJ9_abs_0f7a4 : ByteArray := prog_9_method_59_code
def yJ9_abs_0f7a4 : MethodName := ⟨RJ9, "abs", "(I)I"⟩
abbrev cJ9_max_7cf53 : ByteArray := prog_9_method_65_code
def yJ9_max_7cf53 : MethodName := ⟨RJ9, "max", "(II)I"⟩
def RJ10 : String := "java/lang/System"
def TJ10 : u_T := fun k => match k with
  | _ => ("", "", "", false)
def tyJ10 : Nat → FieldType := fun k => match k with
  | _ => .int
abbrev wsJ100 : List Cond := u_ws RJ10 TJ10 0
theorem nmJ10 : ∀ a, a < 0 → ∀ b, b < 0 → a ≠ b → (TJ10 a).2.1 ≠ (TJ10 b).2.1 := by decide +kernel
theorem tyJ10_ok : ∀ k, k < 0 → parseFieldDescriptor (TJ10 k).2.2.1 = some (tyJ10 k) := by decide +kernel
def RL : String := "RainCellsLaw"
abbrev cL_law : ByteArray := code
def yL_law : MethodName := ⟨RL, "law", "([I)Z"⟩
def wsX0_init : List Cond := .code yX0_init cX0_init 2 none :: ([.methodLink RX0 3 objectInit, .instanceMethod objectInit, .code objectInit ⟨#[0xb1]⟩ 1 none, .fieldLink RX0 9 "RainCells$Cells" "set" "I", .arrayClass .int, .fieldLink RX0 15 "RainCells$Cells" "owners" "[I", .fieldLink RX0 19 "RainCells$Cells" "plots" "[I", .fieldLink RX0 22 "RainCells$Cells" "fars" "[I"] ++ wsX00)
def wsX4_isIn : List Cond := .code yX4_isIn cX4_isIn 2 (some .boolean) :: ([])
def wsX0_claim : List Cond := .code yX0_claim cX0_claim 13 none :: ([.fieldLink RX0 42 "RainCells$Scene" "placeX" "[I", .fieldLink RX0 45 "RainCells$Scene" "placeY" "[I", .fieldLink RX0 39 "RainCells$Scene" "reaches" "[I", .fieldLink RX0 48 "RainCells$Scene" "rowTo" "[I", .fieldLink RX0 51 "RainCells$Scene" "rowFrom" "[I", .fieldLink RX0 15 "RainCells$Cells" "owners" "[I"] ++ wsX10 ++ wsX00)
def wsX0_workOut : List Cond := .code yX0_workOut cX0_workOut 6 none :: ([.fieldLink RX0 9 "RainCells$Cells" "set" "I", .fieldLink RX0 15 "RainCells$Cells" "owners" "[I", .constant RX0 25 (1000000000), .fieldLink RX0 26 "RainCells$Scene" "gauges" "I", .fieldLink RX0 19 "RainCells$Cells" "plots" "[I", .fieldLink RX0 22 "RainCells$Cells" "fars" "[I", .fieldLink RX0 39 "RainCells$Scene" "reaches" "[I", .static yX4_isIn, .initialized RX4, .code yX4_isIn cX4_isIn 2 (some .boolean), .methodLink RX0 35 yX0_claim, .instanceMethod yX0_claim, .selects RX0 yX0_claim yX0_claim, .initialized RX0, .code yX0_claim cX0_claim 13 none, .fieldLink RX0 42 "RainCells$Scene" "placeX" "[I", .fieldLink RX0 45 "RainCells$Scene" "placeY" "[I", .fieldLink RX0 48 "RainCells$Scene" "rowTo" "[I", .fieldLink RX0 51 "RainCells$Scene" "rowFrom" "[I"] ++ wsX00 ++ wsX10)
def wsX4_isPlot : List Cond := .code yX4_isPlot cX4_isPlot 2 (some .boolean) :: ([])
def wsX0_ownerAt : List Cond := .code yX0_ownerAt cX0_ownerAt 3 (some .int) :: ([.fieldLink RX0 15 "RainCells$Cells" "owners" "[I", .static yX4_isPlot, .initialized RX4, .code yX4_isPlot cX4_isPlot 2 (some .boolean)] ++ wsX00)
def wsX0_farOfAll : List Cond := .code yX0_farOfAll cX0_farOfAll 3 (some .int) :: ([.fieldLink RX0 22 "RainCells$Cells" "fars" "[I"] ++ wsX00)
def wsX0_sidesTo : List Cond := .code yX0_sidesTo cX0_sidesTo 6 (some .int) :: ([.methodLink RX0 57 yX0_ownerAt, .instanceMethod yX0_ownerAt, .selects RX0 yX0_ownerAt yX0_ownerAt, .initialized RX0, .code yX0_ownerAt cX0_ownerAt 3 (some .int), .fieldLink RX0 15 "RainCells$Cells" "owners" "[I", .static yX4_isPlot, .initialized RX4, .code yX4_isPlot cX4_isPlot 2 (some .boolean)] ++ wsX00)
def wsX4_with : List Cond := .code yX4_with cX4_with 2 (some .int) :: ([])
def wsX0_ownersAt : List Cond := .code yX0_ownersAt cX0_ownersAt 4 (some .int) :: ([.methodLink RX0 57 yX0_ownerAt, .instanceMethod yX0_ownerAt, .selects RX0 yX0_ownerAt yX0_ownerAt, .initialized RX0, .code yX0_ownerAt cX0_ownerAt 3 (some .int), .fieldLink RX0 15 "RainCells$Cells" "owners" "[I", .static yX4_isPlot, .initialized RX4, .code yX4_isPlot cX4_isPlot 2 (some .boolean), .static yX4_with, .code yX4_with cX4_with 2 (some .int)] ++ wsX00)
def wsX4_without : List Cond := .code yX4_without cX4_without 2 (some .int) :: ([])
def wsX0_touching : List Cond := .code yX0_touching cX0_touching 5 (some .int) :: ([.methodLink RX0 57 yX0_ownerAt, .instanceMethod yX0_ownerAt, .selects RX0 yX0_ownerAt yX0_ownerAt, .initialized RX0, .code yX0_ownerAt cX0_ownerAt 3 (some .int), .fieldLink RX0 15 "RainCells$Cells" "owners" "[I", .static yX4_isPlot, .initialized RX4, .code yX4_isPlot cX4_isPlot 2 (some .boolean), .methodLink RX0 61 yX0_ownersAt, .instanceMethod yX0_ownersAt, .selects RX0 yX0_ownersAt yX0_ownersAt, .code yX0_ownersAt cX0_ownersAt 4 (some .int), .static yX4_with, .code yX4_with cX4_with 2 (some .int), .static yX4_without, .code yX4_without cX4_without 2 (some .int)] ++ wsX00)
def wsX0_inBoth : List Cond := .code yX0_inBoth cX0_inBoth 6 (some .int) :: ([.fieldLink RX0 15 "RainCells$Cells" "owners" "[I"] ++ wsX00)
def wsX1_init : List Cond := .code yX1_init cX1_init 2 none :: ([.methodLink RX1 3 objectInit, .instanceMethod objectInit, .code objectInit ⟨#[0xb1]⟩ 1 none, .arrayClass .int, .fieldLink RX1 9 "RainCells$Scene" "rowFrom" "[I", .fieldLink RX1 15 "RainCells$Scene" "rowTo" "[I", .fieldLink RX1 18 "RainCells$Scene" "gauges" "I", .fieldLink RX1 22 "RainCells$Scene" "placeX" "[I", .fieldLink RX1 25 "RainCells$Scene" "placeY" "[I", .fieldLink RX1 28 "RainCells$Scene" "reaches" "[I", .arrayClass .long, .fieldLink RX1 31 "RainCells$Scene" "out" "[J", .fieldLink RX1 35 "RainCells$Scene" "readings" "[I"] ++ wsX10)
def wsX1_copyFrom : List Cond := .code yX1_copyFrom cX1_copyFrom 2 none :: ([.fieldLink RX1 9 "RainCells$Scene" "rowFrom" "[I", .methodLink RX1 38 arraycopyName, .native arraycopyName, .static arraycopyName, .initialized "java/lang/System", .fieldLink RX1 15 "RainCells$Scene" "rowTo" "[I", .fieldLink RX1 18 "RainCells$Scene" "gauges" "I", .fieldLink RX1 22 "RainCells$Scene" "placeX" "[I", .fieldLink RX1 25 "RainCells$Scene" "placeY" "[I", .fieldLink RX1 28 "RainCells$Scene" "reaches" "[I", .fieldLink RX1 31 "RainCells$Scene" "out" "[J", .fieldLink RX1 35 "RainCells$Scene" "readings" "[I"] ++ wsX10)
def wsX1_rowHasPlots : List Cond := .code yX1_rowHasPlots cX1_rowHasPlots 2 (some .boolean) :: ([.fieldLink RX1 9 "RainCells$Scene" "rowFrom" "[I", .fieldLink RX1 15 "RainCells$Scene" "rowTo" "[I"] ++ wsX10)
def wsX1_hasPlot : List Cond := .code yX1_hasPlot cX1_hasPlot 3 (some .boolean) :: ([.fieldLink RX1 9 "RainCells$Scene" "rowFrom" "[I", .fieldLink RX1 15 "RainCells$Scene" "rowTo" "[I"] ++ wsX10)
def wsX1_plotCount : List Cond := .code yX1_plotCount cX1_plotCount 3 (some .int) :: ([.fieldLink RX1 15 "RainCells$Scene" "rowTo" "[I", .fieldLink RX1 9 "RainCells$Scene" "rowFrom" "[I", .methodLink RX1 44 yX1_rowHasPlots, .instanceMethod yX1_rowHasPlots, .selects RX1 yX1_rowHasPlots yX1_rowHasPlots, .initialized RX1, .code yX1_rowHasPlots cX1_rowHasPlots 2 (some .boolean)] ++ wsX10)
def wsX1_knows : List Cond := .code yX1_knows cX1_knows 2 (some .boolean) :: ([.fieldLink RX1 18 "RainCells$Scene" "gauges" "I"] ++ wsX10)
def wsX1_gaugeAt : List Cond := .code yX1_gaugeAt cX1_gaugeAt 4 (some .int) :: ([.fieldLink RX1 18 "RainCells$Scene" "gauges" "I", .fieldLink RX1 22 "RainCells$Scene" "placeX" "[I", .fieldLink RX1 25 "RainCells$Scene" "placeY" "[I"] ++ wsX10)
def wsX1_farFrom : List Cond := .code yX1_farFrom cX1_farFrom 6 (some .int) :: ([.fieldLink RX1 22 "RainCells$Scene" "placeX" "[I", .fieldLink RX1 25 "RainCells$Scene" "placeY" "[I"] ++ wsX10)
def wsX1_putOut : List Cond := .code yX1_putOut cX1_putOut 6 none :: ([.fieldLink RX1 31 "RainCells$Scene" "out" "[J", .constantLong RX1 48 (-1)] ++ wsX10)
def wsJ13_bitCount_95d88 : List Cond := .code yJ13_bitCount_95d88 cJ13_bitCount_95d88 2 (some .int) :: ([.constantLong RJ13 314 (6148914691236517205), .constantLong RJ13 316 (3689348814741910323), .constantLong RJ13 318 (1085102592571150095)])
def wsX1_daysOut : List Cond := .code yX1_daysOut cX1_daysOut 2 (some .int) :: ([.fieldLink RX1 31 "RainCells$Scene" "out" "[J", .methodLink RX1 50 yJ13_bitCount_95d88, .static yJ13_bitCount_95d88, .initialized RJ13, .code yJ13_bitCount_95d88 cJ13_bitCount_95d88 2 (some .int), .constantLong RJ13 314 (6148914691236517205), .constantLong RJ13 316 (3689348814741910323), .constantLong RJ13 318 (1085102592571150095)] ++ wsX10)
def wsX1_readingOf : List Cond := .code yX1_readingOf cX1_readingOf 3 (some .int) :: ([.fieldLink RX1 35 "RainCells$Scene" "readings" "[I"] ++ wsX10)
def wsX1_daysRead : List Cond := .code yX1_daysRead cX1_daysRead 4 (some .int) :: ([.methodLink RX1 56 yX1_readingOf, .instanceMethod yX1_readingOf, .selects RX1 yX1_readingOf yX1_readingOf, .initialized RX1, .code yX1_readingOf cX1_readingOf 3 (some .int), .fieldLink RX1 35 "RainCells$Scene" "readings" "[I"] ++ wsX10)
def wsX1_putReading : List Cond := .code yX1_putReading cX1_putReading 4 none :: ([.fieldLink RX1 35 "RainCells$Scene" "readings" "[I"] ++ wsX10)
def wsX1_workingOn : List Cond := .code yX1_workingOn cX1_workingOn 5 (some .int) :: ([.fieldLink RX1 18 "RainCells$Scene" "gauges" "I", .fieldLink RX1 31 "RainCells$Scene" "out" "[J", .methodLink RX1 56 yX1_readingOf, .instanceMethod yX1_readingOf, .selects RX1 yX1_readingOf yX1_readingOf, .initialized RX1, .code yX1_readingOf cX1_readingOf 3 (some .int), .fieldLink RX1 35 "RainCells$Scene" "readings" "[I", .static yX4_with, .initialized RX4, .code yX4_with cX4_with 2 (some .int)] ++ wsX10)
def wsX2_init : List Cond := .code yX2_init cX2_init 1 none :: ([.methodLink RX2 3 objectInit, .instanceMethod objectInit, .code objectInit ⟨#[0xb1]⟩ 1 none, .constant RX2 9 (1000000000), .fieldLink RX2 10 "RainCells$Search" "least" "I", .fieldLink RX2 16 "RainCells$Search" "leastX" "I", .fieldLink RX2 19 "RainCells$Search" "leastY" "I", .classLink RX2 22 RX0, .instantiable RX0 4, .initialized RX0, .fieldLink RX2 25 "RainCells$Search" "cells" "LRainCells$Cells;", .arrayClass .int, .fieldLink RX2 29 "RainCells$Search" "lefts" "[I", .fieldLink RX2 33 "RainCells$Search" "fars" "[I", .fieldLink RX2 36 "RainCells$Search" "rowMost" "[I", .fieldLink RX2 39 "RainCells$Search" "rowFar" "[I", .methodLink RX2 24 yX0_init, .instanceMethod yX0_init, .code yX0_init cX0_init 2 none, .methodLink RX0 3 objectInit, .fieldLink RX0 9 "RainCells$Cells" "set" "I", .fieldLink RX0 15 "RainCells$Cells" "owners" "[I", .fieldLink RX0 19 "RainCells$Cells" "plots" "[I", .fieldLink RX0 22 "RainCells$Cells" "fars" "[I"] ++ wsX20 ++ wsX00)
def wsX2_readRow : List Cond := .code yX2_readRow cX2_readRow 6 none :: ([.fieldLink RX2 36 "RainCells$Search" "rowMost" "[I", .constant RX2 66 (-1000000000), .fieldLink RX2 39 "RainCells$Search" "rowFar" "[I", .fieldLink RX2 50 "RainCells$Scene" "rowFrom" "[I", .fieldLink RX2 55 "RainCells$Scene" "rowTo" "[I", .fieldLink RX2 25 "RainCells$Search" "cells" "LRainCells$Cells;", .fieldLink RX2 67 "RainCells$Cells" "owners" "[I", .fieldLink RX2 33 "RainCells$Search" "fars" "[I", .fieldLink RX2 29 "RainCells$Search" "lefts" "[I", .fieldLink RX2 70 "RainCells$Scene" "reaches" "[I", .methodLink RX2 73 Lib.Math.max.name, .static Lib.Math.max.name, .initialized "java/lang/Math", .code Lib.Math.max.name Lib.Math.max.code 2 (some .int)] ++ wsX20 ++ wsX10 ++ wsX00)
def wsX2_farOfRow : List Cond := .code yX2_farOfRow cX2_farOfRow 10 (some .int) :: ([.fieldLink RX2 36 "RainCells$Search" "rowMost" "[I", .fieldLink RX2 39 "RainCells$Search" "rowFar" "[I", .fieldLink RX2 50 "RainCells$Scene" "rowFrom" "[I", .fieldLink RX2 55 "RainCells$Scene" "rowTo" "[I", .fieldLink RX2 29 "RainCells$Search" "lefts" "[I", .fieldLink RX2 33 "RainCells$Search" "fars" "[I"] ++ wsX20 ++ wsX10)
def wsX2_tryAt : List Cond := .code yX2_tryAt cX2_tryAt 7 none :: ([.fieldLink RX2 10 "RainCells$Search" "least" "I", .fieldLink RX2 16 "RainCells$Search" "leastX" "I", .fieldLink RX2 19 "RainCells$Search" "leastY" "I", .methodLink RX2 78 yX2_farOfRow, .instanceMethod yX2_farOfRow, .selects RX2 yX2_farOfRow yX2_farOfRow, .initialized RX2, .code yX2_farOfRow cX2_farOfRow 10 (some .int), .fieldLink RX2 36 "RainCells$Search" "rowMost" "[I", .fieldLink RX2 39 "RainCells$Search" "rowFar" "[I", .fieldLink RX2 50 "RainCells$Scene" "rowFrom" "[I", .fieldLink RX2 55 "RainCells$Scene" "rowTo" "[I", .fieldLink RX2 29 "RainCells$Search" "lefts" "[I", .fieldLink RX2 33 "RainCells$Search" "fars" "[I"] ++ wsX20 ++ wsX10)
def wsX2_run_r1 : List Cond := [Cond.fieldLink RX2 25 "RainCells$Search" "cells" "LRainCells$Cells;", Cond.fieldLink RX2 29 "RainCells$Search" "lefts" "[I", Cond.constant RX2 9 (1000000000), Cond.fieldLink RX2 10 "RainCells$Search" "least" "I", Cond.fieldLink RX2 50 "RainCells$Scene" "rowFrom" "[I", Cond.fieldLink RX2 55 "RainCells$Scene" "rowTo" "[I", Cond.methodLink RX2 42 yX0_workOut, Cond.instanceMethod yX0_workOut, Cond.selects RX0 yX0_workOut yX0_workOut, Cond.initialized RX0, Cond.code yX0_workOut cX0_workOut 6 none, Cond.fieldLink RX0 9 "RainCells$Cells" "set" "I", Cond.fieldLink RX0 15 "RainCells$Cells" "owners" "[I", Cond.constant RX0 25 (1000000000), Cond.fieldLink RX0 26 "RainCells$Scene" "gauges" "I", Cond.fieldLink RX0 19 "RainCells$Cells" "plots" "[I", Cond.fieldLink RX0 22 "RainCells$Cells" "fars" "[I", Cond.fieldLink RX0 39 "RainCells$Scene" "reaches" "[I", Cond.static yX4_isIn, Cond.initialized RX4, Cond.code yX4_isIn cX4_isIn 2 (some .boolean), Cond.methodLink RX0 35 yX0_claim, Cond.instanceMethod yX0_claim, Cond.selects RX0 yX0_claim yX0_claim]
def wsX2_run_r2 : List Cond := [Cond.code yX0_claim cX0_claim 13 none, Cond.fieldLink RX0 42 "RainCells$Scene" "placeX" "[I", Cond.fieldLink RX0 45 "RainCells$Scene" "placeY" "[I", Cond.fieldLink RX0 48 "RainCells$Scene" "rowTo" "[I", Cond.fieldLink RX0 51 "RainCells$Scene" "rowFrom" "[I", Cond.methodLink RX2 46 yX2_readRow, Cond.instanceMethod yX2_readRow, Cond.selects RX2 yX2_readRow yX2_readRow, Cond.initialized RX2, Cond.code yX2_readRow cX2_readRow 6 none, Cond.fieldLink RX2 36 "RainCells$Search" "rowMost" "[I", Cond.constant RX2 66 (-1000000000), Cond.fieldLink RX2 39 "RainCells$Search" "rowFar" "[I", Cond.fieldLink RX2 67 "RainCells$Cells" "owners" "[I", Cond.fieldLink RX2 33 "RainCells$Search" "fars" "[I", Cond.fieldLink RX2 70 "RainCells$Scene" "reaches" "[I", Cond.methodLink RX2 73 Lib.Math.max.name, Cond.static Lib.Math.max.name, Cond.initialized "java/lang/Math", Cond.code Lib.Math.max.name Lib.Math.max.code 2 (some .int), Cond.methodLink RX2 58 yX1_gaugeAt, Cond.instanceMethod yX1_gaugeAt, Cond.selects RX1 yX1_gaugeAt yX1_gaugeAt, Cond.initialized RX1]
def wsX2_run_r3 : List Cond := [Cond.code yX1_gaugeAt cX1_gaugeAt 4 (some .int), Cond.fieldLink RX1 18 "RainCells$Scene" "gauges" "I", Cond.fieldLink RX1 22 "RainCells$Scene" "placeX" "[I", Cond.fieldLink RX1 25 "RainCells$Scene" "placeY" "[I", Cond.methodLink RX2 62 yX2_tryAt, Cond.instanceMethod yX2_tryAt, Cond.selects RX2 yX2_tryAt yX2_tryAt, Cond.code yX2_tryAt cX2_tryAt 7 none, Cond.fieldLink RX2 16 "RainCells$Search" "leastX" "I", Cond.fieldLink RX2 19 "RainCells$Search" "leastY" "I", Cond.methodLink RX2 78 yX2_farOfRow, Cond.instanceMethod yX2_farOfRow, Cond.selects RX2 yX2_farOfRow yX2_farOfRow, Cond.code yX2_farOfRow cX2_farOfRow 10 (some .int)]
def wsX2_run : List Cond := .code yX2_run cX2_run 5 none :: ((wsX2_run_r1 ++ (wsX2_run_r2 ++ wsX2_run_r3)) ++ wsX20 ++ wsX10 ++ wsX00)
def wsX3_init : List Cond := .code yX3_init cX3_init 2 none :: ([.methodLink RX3 3 objectInit, .instanceMethod objectInit, .code objectInit ⟨#[0xb1]⟩ 1 none, .classLink RX3 9 RX0, .fieldLink RX3 11 "RainCells$Store" "cells" "[LRainCells$Cells;", .fieldLink RX3 17 "RainCells$Store" "size" "I", .fieldLink RX3 21 "RainCells$Store" "found" "I", .fieldLink RX3 24 "RainCells$Store" "workedOut" "I", .fieldLink RX3 27 "RainCells$Store" "replaced" "I", .instantiable RX0 4, .initialized RX0, .fieldLink RX3 31 "RainCells$Store" "empty" "LRainCells$Cells;", .arrayClass .int, .fieldLink RX3 35 "RainCells$Store" "lefts" "[I", .methodLink RX3 30 yX0_init, .instanceMethod yX0_init, .code yX0_init cX0_init 2 none, .methodLink RX0 3 objectInit, .fieldLink RX0 9 "RainCells$Cells" "set" "I", .fieldLink RX0 15 "RainCells$Cells" "owners" "[I", .fieldLink RX0 19 "RainCells$Cells" "plots" "[I", .fieldLink RX0 22 "RainCells$Cells" "fars" "[I"] ++ wsX30 ++ wsX00)
def wsX3_letAllGo : List Cond := .code yX3_letAllGo cX3_letAllGo 1 none :: ([.fieldLink RX3 17 "RainCells$Store" "size" "I"] ++ wsX30)
def wsX3_putLast : List Cond := .code yX3_putLast cX3_putLast 4 (some (.object "RainCells$Cells")) :: ([.fieldLink RX3 11 "RainCells$Store" "cells" "[LRainCells$Cells;", .fieldLink RX3 17 "RainCells$Store" "size" "I"] ++ wsX30)
def wsX3_room : List Cond := .code yX3_room cX3_room 1 (some (.object "RainCells$Cells")) :: ([.fieldLink RX3 17 "RainCells$Store" "size" "I", .fieldLink RX3 11 "RainCells$Store" "cells" "[LRainCells$Cells;", .fieldLink RX3 27 "RainCells$Store" "replaced" "I", .methodLink RX3 42 yX3_putLast, .instanceMethod yX3_putLast, .selects RX3 yX3_putLast yX3_putLast, .initialized RX3, .code yX3_putLast cX3_putLast 4 (some (.object "RainCells$Cells"))] ++ wsX30)
def wsX3_lookUp_r1 : List Cond := [Cond.fieldLink RX3 17 "RainCells$Store" "size" "I", Cond.fieldLink RX3 11 "RainCells$Store" "cells" "[LRainCells$Cells;", Cond.fieldLink RX3 39 "RainCells$Cells" "set" "I", Cond.fieldLink RX3 21 "RainCells$Store" "found" "I", Cond.fieldLink RX3 24 "RainCells$Store" "workedOut" "I", Cond.fieldLink RX3 35 "RainCells$Store" "lefts" "[I", Cond.methodLink RX3 42 yX3_putLast, Cond.instanceMethod yX3_putLast, Cond.selects RX3 yX3_putLast yX3_putLast, Cond.initialized RX3, Cond.code yX3_putLast cX3_putLast 4 (some (.object "RainCells$Cells")), Cond.methodLink RX3 46 yX3_room, Cond.instanceMethod yX3_room, Cond.selects RX3 yX3_room yX3_room, Cond.code yX3_room cX3_room 1 (some (.object "RainCells$Cells")), Cond.fieldLink RX3 27 "RainCells$Store" "replaced" "I", Cond.methodLink RX3 50 yX0_workOut, Cond.instanceMethod yX0_workOut, Cond.selects RX0 yX0_workOut yX0_workOut, Cond.initialized RX0, Cond.code yX0_workOut cX0_workOut 6 none, Cond.fieldLink RX0 9 "RainCells$Cells" "set" "I", Cond.fieldLink RX0 15 "RainCells$Cells" "owners" "[I", Cond.constant RX0 25 (1000000000)]
def wsX3_lookUp_r2 : List Cond := [Cond.fieldLink RX0 26 "RainCells$Scene" "gauges" "I", Cond.fieldLink RX0 19 "RainCells$Cells" "plots" "[I", Cond.fieldLink RX0 22 "RainCells$Cells" "fars" "[I", Cond.fieldLink RX0 39 "RainCells$Scene" "reaches" "[I", Cond.static yX4_isIn, Cond.initialized RX4, Cond.code yX4_isIn cX4_isIn 2 (some .boolean), Cond.methodLink RX0 35 yX0_claim, Cond.instanceMethod yX0_claim, Cond.selects RX0 yX0_claim yX0_claim, Cond.code yX0_claim cX0_claim 13 none, Cond.fieldLink RX0 42 "RainCells$Scene" "placeX" "[I", Cond.fieldLink RX0 45 "RainCells$Scene" "placeY" "[I", Cond.fieldLink RX0 48 "RainCells$Scene" "rowTo" "[I", Cond.fieldLink RX0 51 "RainCells$Scene" "rowFrom" "[I"]
def wsX3_lookUp : List Cond := .code yX3_lookUp cX3_lookUp 4 (some (.object "RainCells$Cells")) :: ((wsX3_lookUp_r1 ++ wsX3_lookUp_r2) ++ wsX30 ++ wsX00 ++ wsX10)
def wsX4_init_r1 : List Cond := [Cond.methodLink RX4 3 objectInit, Cond.instanceMethod objectInit, Cond.code objectInit ⟨#[0xb1]⟩ 1 none, Cond.classLink RX4 9 RX1, Cond.instantiable RX1 8, Cond.initialized RX1, Cond.fieldLink RX4 12 "RainCells" "scene" "LRainCells$Scene;", Cond.fieldLink RX4 16 "RainCells" "images" "[LRainCells$Scene;", Cond.fieldLink RX4 20 "RainCells" "imagesKept" "I", Cond.classLink RX4 24 RX3, Cond.instantiable RX3 7, Cond.initialized RX3, Cond.fieldLink RX4 27 "RainCells" "store" "LRainCells$Store;", Cond.classLink RX4 31 RX2, Cond.instantiable RX2 8, Cond.initialized RX2, Cond.fieldLink RX4 34 "RainCells" "search" "LRainCells$Search;", Cond.methodLink RX4 11 yX1_init, Cond.instanceMethod yX1_init, Cond.code yX1_init cX1_init 2 none, Cond.methodLink RX1 3 objectInit, Cond.arrayClass .int, Cond.fieldLink RX1 9 "RainCells$Scene" "rowFrom" "[I", Cond.fieldLink RX1 15 "RainCells$Scene" "rowTo" "[I"]
def wsX4_init_r2 : List Cond := [Cond.fieldLink RX1 18 "RainCells$Scene" "gauges" "I", Cond.fieldLink RX1 22 "RainCells$Scene" "placeX" "[I", Cond.fieldLink RX1 25 "RainCells$Scene" "placeY" "[I", Cond.fieldLink RX1 28 "RainCells$Scene" "reaches" "[I", Cond.arrayClass .long, Cond.fieldLink RX1 31 "RainCells$Scene" "out" "[J", Cond.fieldLink RX1 35 "RainCells$Scene" "readings" "[I", Cond.methodLink RX4 26 yX3_init, Cond.instanceMethod yX3_init, Cond.code yX3_init cX3_init 2 none, Cond.methodLink RX3 3 objectInit, Cond.classLink RX3 9 RX0, Cond.fieldLink RX3 11 "RainCells$Store" "cells" "[LRainCells$Cells;", Cond.fieldLink RX3 17 "RainCells$Store" "size" "I", Cond.fieldLink RX3 21 "RainCells$Store" "found" "I", Cond.fieldLink RX3 24 "RainCells$Store" "workedOut" "I", Cond.fieldLink RX3 27 "RainCells$Store" "replaced" "I", Cond.instantiable RX0 4, Cond.initialized RX0, Cond.fieldLink RX3 31 "RainCells$Store" "empty" "LRainCells$Cells;", Cond.fieldLink RX3 35 "RainCells$Store" "lefts" "[I", Cond.methodLink RX3 30 yX0_init, Cond.instanceMethod yX0_init, Cond.code yX0_init cX0_init 2 none]
def wsX4_init_r3 : List Cond := [Cond.methodLink RX0 3 objectInit, Cond.fieldLink RX0 9 "RainCells$Cells" "set" "I", Cond.fieldLink RX0 15 "RainCells$Cells" "owners" "[I", Cond.fieldLink RX0 19 "RainCells$Cells" "plots" "[I", Cond.fieldLink RX0 22 "RainCells$Cells" "fars" "[I", Cond.instanceMethod yX2_init, Cond.code yX2_init cX2_init 1 none, Cond.methodLink RX2 3 objectInit, Cond.constant RX2 9 (1000000000), Cond.fieldLink RX2 10 "RainCells$Search" "least" "I", Cond.fieldLink RX2 16 "RainCells$Search" "leastX" "I", Cond.fieldLink RX2 19 "RainCells$Search" "leastY" "I", Cond.classLink RX2 22 RX0, Cond.fieldLink RX2 25 "RainCells$Search" "cells" "LRainCells$Cells;", Cond.fieldLink RX2 29 "RainCells$Search" "lefts" "[I", Cond.fieldLink RX2 33 "RainCells$Search" "fars" "[I", Cond.fieldLink RX2 36 "RainCells$Search" "rowMost" "[I", Cond.fieldLink RX2 39 "RainCells$Search" "rowFar" "[I", Cond.methodLink RX2 24 yX0_init]
def wsX4_init : List Cond := .code yX4_init cX4_init 2 none :: ((wsX4_init_r1 ++ (wsX4_init_r2 ++ wsX4_init_r3)) ++ wsX10 ++ wsX40 ++ wsX30 ++ wsX20 ++ wsX00)
def wsX4_row_r1 : List Cond := [Cond.fieldLink RX4 12 "RainCells" "scene" "LRainCells$Scene;", Cond.fieldLink RX4 42 "RainCells$Scene" "rowFrom" "[I", Cond.fieldLink RX4 46 "RainCells$Scene" "rowTo" "[I", Cond.fieldLink RX4 27 "RainCells" "store" "LRainCells$Store;", Cond.methodLink RX4 38 yX4_isPlot, Cond.static yX4_isPlot, Cond.initialized RX4, Cond.code yX4_isPlot cX4_isPlot 2 (some .boolean), Cond.methodLink RX4 49 yX3_letAllGo, Cond.instanceMethod yX3_letAllGo, Cond.selects RX3 yX3_letAllGo yX3_letAllGo, Cond.initialized RX3, Cond.code yX3_letAllGo cX3_letAllGo 1 none, Cond.fieldLink RX3 17 "RainCells$Store" "size" "I", Cond.methodLink RX4 52 yX1_plotCount, Cond.instanceMethod yX1_plotCount, Cond.selects RX1 yX1_plotCount yX1_plotCount, Cond.initialized RX1, Cond.code yX1_plotCount cX1_plotCount 3 (some .int), Cond.fieldLink RX1 15 "RainCells$Scene" "rowTo" "[I", Cond.fieldLink RX1 9 "RainCells$Scene" "rowFrom" "[I", Cond.methodLink RX1 44 yX1_rowHasPlots, Cond.instanceMethod yX1_rowHasPlots, Cond.selects RX1 yX1_rowHasPlots yX1_rowHasPlots]
def wsX4_row_r2 : List Cond := [Cond.code yX1_rowHasPlots cX1_rowHasPlots 2 (some .boolean)]
def wsX4_row : List Cond := .code yX4_row cX4_row 4 (some .int) :: ((wsX4_row_r1 ++ wsX4_row_r2) ++ wsX40 ++ wsX10 ++ wsX30)
def wsX4_isPlace : List Cond := .code yX4_isPlace cX4_isPlace 2 (some .boolean) :: ([])
def wsX4_gauge : List Cond := .code yX4_gauge cX4_gauge 4 (some .int) :: ([.fieldLink RX4 12 "RainCells" "scene" "LRainCells$Scene;", .fieldLink RX4 63 "RainCells$Scene" "gauges" "I", .fieldLink RX4 66 "RainCells$Scene" "placeX" "[I", .fieldLink RX4 69 "RainCells$Scene" "placeY" "[I", .fieldLink RX4 27 "RainCells" "store" "LRainCells$Store;", .methodLink RX4 56 yX4_isPlace, .static yX4_isPlace, .initialized RX4, .code yX4_isPlace cX4_isPlace 2 (some .boolean), .methodLink RX4 59 yX1_gaugeAt, .instanceMethod yX1_gaugeAt, .selects RX1 yX1_gaugeAt yX1_gaugeAt, .initialized RX1, .code yX1_gaugeAt cX1_gaugeAt 4 (some .int), .fieldLink RX1 18 "RainCells$Scene" "gauges" "I", .fieldLink RX1 22 "RainCells$Scene" "placeX" "[I", .fieldLink RX1 25 "RainCells$Scene" "placeY" "[I", .methodLink RX4 49 yX3_letAllGo, .instanceMethod yX3_letAllGo, .selects RX3 yX3_letAllGo yX3_letAllGo, .initialized RX3, .code yX3_letAllGo cX3_letAllGo 1 none, .fieldLink RX3 17 "RainCells$Store" "size" "I"] ++ wsX40 ++ wsX10 ++ wsX30)
def wsX4_move_r1 : List Cond := [Cond.fieldLink RX4 12 "RainCells" "scene" "LRainCells$Scene;", Cond.fieldLink RX4 66 "RainCells$Scene" "placeX" "[I", Cond.fieldLink RX4 69 "RainCells$Scene" "placeY" "[I", Cond.fieldLink RX4 27 "RainCells" "store" "LRainCells$Store;", Cond.methodLink RX4 72 yX1_knows, Cond.instanceMethod yX1_knows, Cond.selects RX1 yX1_knows yX1_knows, Cond.initialized RX1, Cond.code yX1_knows cX1_knows 2 (some .boolean), Cond.fieldLink RX1 18 "RainCells$Scene" "gauges" "I", Cond.methodLink RX4 56 yX4_isPlace, Cond.static yX4_isPlace, Cond.initialized RX4, Cond.code yX4_isPlace cX4_isPlace 2 (some .boolean), Cond.methodLink RX4 59 yX1_gaugeAt, Cond.instanceMethod yX1_gaugeAt, Cond.selects RX1 yX1_gaugeAt yX1_gaugeAt, Cond.code yX1_gaugeAt cX1_gaugeAt 4 (some .int), Cond.fieldLink RX1 22 "RainCells$Scene" "placeX" "[I", Cond.fieldLink RX1 25 "RainCells$Scene" "placeY" "[I", Cond.methodLink RX4 76 yX1_farFrom, Cond.instanceMethod yX1_farFrom, Cond.selects RX1 yX1_farFrom yX1_farFrom, Cond.code yX1_farFrom cX1_farFrom 6 (some .int)]
def wsX4_move_r2 : List Cond := [Cond.methodLink RX4 49 yX3_letAllGo, Cond.instanceMethod yX3_letAllGo, Cond.selects RX3 yX3_letAllGo yX3_letAllGo, Cond.initialized RX3, Cond.code yX3_letAllGo cX3_letAllGo 1 none, Cond.fieldLink RX3 17 "RainCells$Store" "size" "I"]
def wsX4_move : List Cond := .code yX4_move cX4_move 6 (some .int) :: ((wsX4_move_r1 ++ wsX4_move_r2) ++ wsX40 ++ wsX10 ++ wsX30)
def wsX4_reach : List Cond := .code yX4_reach cX4_reach 4 (some .int) :: ([.fieldLink RX4 12 "RainCells" "scene" "LRainCells$Scene;", .fieldLink RX4 80 "RainCells$Scene" "reaches" "[I", .fieldLink RX4 27 "RainCells" "store" "LRainCells$Store;", .methodLink RX4 72 yX1_knows, .instanceMethod yX1_knows, .selects RX1 yX1_knows yX1_knows, .initialized RX1, .code yX1_knows cX1_knows 2 (some .boolean), .fieldLink RX1 18 "RainCells$Scene" "gauges" "I", .methodLink RX4 49 yX3_letAllGo, .instanceMethod yX3_letAllGo, .selects RX3 yX3_letAllGo yX3_letAllGo, .initialized RX3, .code yX3_letAllGo cX3_letAllGo 1 none, .fieldLink RX3 17 "RainCells$Store" "size" "I"] ++ wsX40 ++ wsX10 ++ wsX30)
def wsX4_isDay : List Cond := .code yX4_isDay cX4_isDay 1 (some .boolean) :: ([])
def wsX4_areDays : List Cond := .code yX4_areDays cX4_areDays 2 (some .boolean) :: ([.methodLink RX4 94 yX4_isDay, .static yX4_isDay, .initialized RX4, .code yX4_isDay cX4_isDay 1 (some .boolean)])
def wsX4_fail_r1 : List Cond := [Cond.fieldLink RX4 12 "RainCells" "scene" "LRainCells$Scene;", Cond.methodLink RX4 72 yX1_knows, Cond.instanceMethod yX1_knows, Cond.selects RX1 yX1_knows yX1_knows, Cond.initialized RX1, Cond.code yX1_knows cX1_knows 2 (some .boolean), Cond.fieldLink RX1 18 "RainCells$Scene" "gauges" "I", Cond.methodLink RX4 83 yX4_areDays, Cond.static yX4_areDays, Cond.initialized RX4, Cond.code yX4_areDays cX4_areDays 2 (some .boolean), Cond.methodLink RX4 94 yX4_isDay, Cond.static yX4_isDay, Cond.code yX4_isDay cX4_isDay 1 (some .boolean), Cond.methodLink RX4 86 yX1_putOut, Cond.instanceMethod yX1_putOut, Cond.selects RX1 yX1_putOut yX1_putOut, Cond.code yX1_putOut cX1_putOut 6 none, Cond.fieldLink RX1 31 "RainCells$Scene" "out" "[J", Cond.constantLong RX1 48 (-1), Cond.methodLink RX4 90 yX1_daysOut, Cond.instanceMethod yX1_daysOut, Cond.selects RX1 yX1_daysOut yX1_daysOut, Cond.code yX1_daysOut cX1_daysOut 2 (some .int)]
def wsX4_fail_r2 : List Cond := [Cond.methodLink RX1 50 yJ13_bitCount_95d88, Cond.static yJ13_bitCount_95d88, Cond.initialized RJ13, Cond.code yJ13_bitCount_95d88 cJ13_bitCount_95d88 2 (some .int), Cond.constantLong RJ13 314 (6148914691236517205), Cond.constantLong RJ13 316 (3689348814741910323), Cond.constantLong RJ13 318 (1085102592571150095)]
def wsX4_fail : List Cond := .code yX4_fail cX4_fail 6 (some .int) :: ((wsX4_fail_r1 ++ wsX4_fail_r2) ++ wsX40 ++ wsX10)
def wsX4_rain : List Cond := .code yX4_rain cX4_rain 5 (some .int) :: ([.fieldLink RX4 12 "RainCells" "scene" "LRainCells$Scene;", .methodLink RX4 72 yX1_knows, .instanceMethod yX1_knows, .selects RX1 yX1_knows yX1_knows, .initialized RX1, .code yX1_knows cX1_knows 2 (some .boolean), .fieldLink RX1 18 "RainCells$Scene" "gauges" "I", .methodLink RX4 94 yX4_isDay, .static yX4_isDay, .initialized RX4, .code yX4_isDay cX4_isDay 1 (some .boolean), .methodLink RX4 97 yX1_readingOf, .instanceMethod yX1_readingOf, .selects RX1 yX1_readingOf yX1_readingOf, .code yX1_readingOf cX1_readingOf 3 (some .int), .fieldLink RX1 35 "RainCells$Scene" "readings" "[I", .methodLink RX4 100 yX1_putReading, .instanceMethod yX1_putReading, .selects RX1 yX1_putReading yX1_putReading, .code yX1_putReading cX1_putReading 4 none] ++ wsX40 ++ wsX10)
def wsX4_of_r1 : List Cond := [Cond.fieldLink RX4 12 "RainCells" "scene" "LRainCells$Scene;", Cond.fieldLink RX4 66 "RainCells$Scene" "placeX" "[I", Cond.fieldLink RX4 69 "RainCells$Scene" "placeY" "[I", Cond.fieldLink RX4 80 "RainCells$Scene" "reaches" "[I", Cond.methodLink RX4 72 yX1_knows, Cond.instanceMethod yX1_knows, Cond.selects RX1 yX1_knows yX1_knows, Cond.initialized RX1, Cond.code yX1_knows cX1_knows 2 (some .boolean), Cond.fieldLink RX1 18 "RainCells$Scene" "gauges" "I", Cond.methodLink RX4 90 yX1_daysOut, Cond.instanceMethod yX1_daysOut, Cond.selects RX1 yX1_daysOut yX1_daysOut, Cond.code yX1_daysOut cX1_daysOut 2 (some .int), Cond.fieldLink RX1 31 "RainCells$Scene" "out" "[J", Cond.methodLink RX1 50 yJ13_bitCount_95d88, Cond.static yJ13_bitCount_95d88, Cond.initialized RJ13, Cond.code yJ13_bitCount_95d88 cJ13_bitCount_95d88 2 (some .int), Cond.constantLong RJ13 314 (6148914691236517205), Cond.constantLong RJ13 316 (3689348814741910323), Cond.constantLong RJ13 318 (1085102592571150095), Cond.methodLink RX4 104 yX1_daysRead, Cond.instanceMethod yX1_daysRead]
def wsX4_of_r2 : List Cond := [Cond.selects RX1 yX1_daysRead yX1_daysRead, Cond.code yX1_daysRead cX1_daysRead 4 (some .int), Cond.methodLink RX1 56 yX1_readingOf, Cond.instanceMethod yX1_readingOf, Cond.selects RX1 yX1_readingOf yX1_readingOf, Cond.code yX1_readingOf cX1_readingOf 3 (some .int), Cond.fieldLink RX1 35 "RainCells$Scene" "readings" "[I"]
def wsX4_of : List Cond := .code yX4_of cX4_of 3 (some .int) :: ((wsX4_of_r1 ++ wsX4_of_r2) ++ wsX40 ++ wsX10)
def wsX4_reading : List Cond := .code yX4_reading cX4_reading 3 (some .int) :: ([.fieldLink RX4 12 "RainCells" "scene" "LRainCells$Scene;", .methodLink RX4 72 yX1_knows, .instanceMethod yX1_knows, .selects RX1 yX1_knows yX1_knows, .initialized RX1, .code yX1_knows cX1_knows 2 (some .boolean), .fieldLink RX1 18 "RainCells$Scene" "gauges" "I", .methodLink RX4 94 yX4_isDay, .static yX4_isDay, .initialized RX4, .code yX4_isDay cX4_isDay 1 (some .boolean), .methodLink RX4 97 yX1_readingOf, .instanceMethod yX1_readingOf, .selects RX1 yX1_readingOf yX1_readingOf, .code yX1_readingOf cX1_readingOf 3 (some .int), .fieldLink RX1 35 "RainCells$Scene" "readings" "[I"] ++ wsX40 ++ wsX10)
def wsX4_working : List Cond := .code yX4_working cX4_working 2 (some .int) :: ([.fieldLink RX4 12 "RainCells" "scene" "LRainCells$Scene;", .methodLink RX4 94 yX4_isDay, .static yX4_isDay, .initialized RX4, .code yX4_isDay cX4_isDay 1 (some .boolean), .methodLink RX4 107 yX1_workingOn, .instanceMethod yX1_workingOn, .selects RX1 yX1_workingOn yX1_workingOn, .initialized RX1, .code yX1_workingOn cX1_workingOn 5 (some .int), .fieldLink RX1 18 "RainCells$Scene" "gauges" "I", .fieldLink RX1 31 "RainCells$Scene" "out" "[J", .methodLink RX1 56 yX1_readingOf, .instanceMethod yX1_readingOf, .selects RX1 yX1_readingOf yX1_readingOf, .code yX1_readingOf cX1_readingOf 3 (some .int), .fieldLink RX1 35 "RainCells$Scene" "readings" "[I", .static yX4_with, .code yX4_with cX4_with 2 (some .int)] ++ wsX40 ++ wsX10)
def wsX4_owner_r1 : List Cond := [Cond.fieldLink RX4 12 "RainCells" "scene" "LRainCells$Scene;", Cond.fieldLink RX4 27 "RainCells" "store" "LRainCells$Store;", Cond.methodLink RX4 94 yX4_isDay, Cond.static yX4_isDay, Cond.initialized RX4, Cond.code yX4_isDay cX4_isDay 1 (some .boolean), Cond.methodLink RX4 38 yX4_isPlot, Cond.static yX4_isPlot, Cond.code yX4_isPlot cX4_isPlot 2 (some .boolean), Cond.methodLink RX4 110 yX1_hasPlot, Cond.instanceMethod yX1_hasPlot, Cond.selects RX1 yX1_hasPlot yX1_hasPlot, Cond.initialized RX1, Cond.code yX1_hasPlot cX1_hasPlot 3 (some .boolean), Cond.fieldLink RX1 9 "RainCells$Scene" "rowFrom" "[I", Cond.fieldLink RX1 15 "RainCells$Scene" "rowTo" "[I", Cond.methodLink RX4 107 yX1_workingOn, Cond.instanceMethod yX1_workingOn, Cond.selects RX1 yX1_workingOn yX1_workingOn, Cond.code yX1_workingOn cX1_workingOn 5 (some .int), Cond.fieldLink RX1 18 "RainCells$Scene" "gauges" "I", Cond.fieldLink RX1 31 "RainCells$Scene" "out" "[J", Cond.methodLink RX1 56 yX1_readingOf, Cond.instanceMethod yX1_readingOf]
def wsX4_owner_r2 : List Cond := [Cond.selects RX1 yX1_readingOf yX1_readingOf, Cond.code yX1_readingOf cX1_readingOf 3 (some .int), Cond.fieldLink RX1 35 "RainCells$Scene" "readings" "[I", Cond.static yX4_with, Cond.code yX4_with cX4_with 2 (some .int), Cond.methodLink RX4 113 yX3_lookUp, Cond.instanceMethod yX3_lookUp, Cond.selects RX3 yX3_lookUp yX3_lookUp, Cond.initialized RX3, Cond.code yX3_lookUp cX3_lookUp 4 (some (.object "RainCells$Cells")), Cond.fieldLink RX3 17 "RainCells$Store" "size" "I", Cond.fieldLink RX3 11 "RainCells$Store" "cells" "[LRainCells$Cells;", Cond.fieldLink RX3 39 "RainCells$Cells" "set" "I", Cond.fieldLink RX3 21 "RainCells$Store" "found" "I", Cond.fieldLink RX3 24 "RainCells$Store" "workedOut" "I", Cond.fieldLink RX3 35 "RainCells$Store" "lefts" "[I", Cond.methodLink RX3 42 yX3_putLast, Cond.instanceMethod yX3_putLast, Cond.selects RX3 yX3_putLast yX3_putLast, Cond.code yX3_putLast cX3_putLast 4 (some (.object "RainCells$Cells")), Cond.methodLink RX3 46 yX3_room, Cond.instanceMethod yX3_room, Cond.selects RX3 yX3_room yX3_room, Cond.code yX3_room cX3_room 1 (some (.object "RainCells$Cells"))]
def wsX4_owner_r3 : List Cond := [Cond.fieldLink RX3 27 "RainCells$Store" "replaced" "I", Cond.methodLink RX3 50 yX0_workOut, Cond.instanceMethod yX0_workOut, Cond.selects RX0 yX0_workOut yX0_workOut, Cond.initialized RX0, Cond.code yX0_workOut cX0_workOut 6 none, Cond.fieldLink RX0 9 "RainCells$Cells" "set" "I", Cond.fieldLink RX0 15 "RainCells$Cells" "owners" "[I", Cond.constant RX0 25 (1000000000), Cond.fieldLink RX0 26 "RainCells$Scene" "gauges" "I", Cond.fieldLink RX0 19 "RainCells$Cells" "plots" "[I", Cond.fieldLink RX0 22 "RainCells$Cells" "fars" "[I", Cond.fieldLink RX0 39 "RainCells$Scene" "reaches" "[I", Cond.static yX4_isIn, Cond.code yX4_isIn cX4_isIn 2 (some .boolean), Cond.methodLink RX0 35 yX0_claim, Cond.instanceMethod yX0_claim, Cond.selects RX0 yX0_claim yX0_claim, Cond.code yX0_claim cX0_claim 13 none, Cond.fieldLink RX0 42 "RainCells$Scene" "placeX" "[I", Cond.fieldLink RX0 45 "RainCells$Scene" "placeY" "[I", Cond.fieldLink RX0 48 "RainCells$Scene" "rowTo" "[I", Cond.fieldLink RX0 51 "RainCells$Scene" "rowFrom" "[I", Cond.methodLink RX4 117 yX0_ownerAt]
def wsX4_owner_r4 : List Cond := [Cond.instanceMethod yX0_ownerAt, Cond.selects RX0 yX0_ownerAt yX0_ownerAt, Cond.code yX0_ownerAt cX0_ownerAt 3 (some .int)]
def wsX4_owner : List Cond := .code yX4_owner cX4_owner 5 (some .int) :: ((wsX4_owner_r1 ++ (wsX4_owner_r2 ++ (wsX4_owner_r3 ++ wsX4_owner_r4))) ++ wsX40 ++ wsX10 ++ wsX30 ++ wsX00)
def wsX4_cellsOn_r1 : List Cond := [Cond.fieldLink RX4 12 "RainCells" "scene" "LRainCells$Scene;", Cond.fieldLink RX4 27 "RainCells" "store" "LRainCells$Store;", Cond.fieldLink RX4 223 "RainCells$Store" "empty" "LRainCells$Cells;", Cond.methodLink RX4 107 yX1_workingOn, Cond.instanceMethod yX1_workingOn, Cond.selects RX1 yX1_workingOn yX1_workingOn, Cond.initialized RX1, Cond.code yX1_workingOn cX1_workingOn 5 (some .int), Cond.fieldLink RX1 18 "RainCells$Scene" "gauges" "I", Cond.fieldLink RX1 31 "RainCells$Scene" "out" "[J", Cond.methodLink RX1 56 yX1_readingOf, Cond.instanceMethod yX1_readingOf, Cond.selects RX1 yX1_readingOf yX1_readingOf, Cond.code yX1_readingOf cX1_readingOf 3 (some .int), Cond.fieldLink RX1 35 "RainCells$Scene" "readings" "[I", Cond.static yX4_with, Cond.initialized RX4, Cond.code yX4_with cX4_with 2 (some .int), Cond.methodLink RX4 113 yX3_lookUp, Cond.instanceMethod yX3_lookUp, Cond.selects RX3 yX3_lookUp yX3_lookUp, Cond.initialized RX3, Cond.code yX3_lookUp cX3_lookUp 4 (some (.object "RainCells$Cells")), Cond.fieldLink RX3 17 "RainCells$Store" "size" "I"]
def wsX4_cellsOn_r2 : List Cond := [Cond.fieldLink RX3 11 "RainCells$Store" "cells" "[LRainCells$Cells;", Cond.fieldLink RX3 39 "RainCells$Cells" "set" "I", Cond.fieldLink RX3 21 "RainCells$Store" "found" "I", Cond.fieldLink RX3 24 "RainCells$Store" "workedOut" "I", Cond.fieldLink RX3 35 "RainCells$Store" "lefts" "[I", Cond.methodLink RX3 42 yX3_putLast, Cond.instanceMethod yX3_putLast, Cond.selects RX3 yX3_putLast yX3_putLast, Cond.code yX3_putLast cX3_putLast 4 (some (.object "RainCells$Cells")), Cond.methodLink RX3 46 yX3_room, Cond.instanceMethod yX3_room, Cond.selects RX3 yX3_room yX3_room, Cond.code yX3_room cX3_room 1 (some (.object "RainCells$Cells")), Cond.fieldLink RX3 27 "RainCells$Store" "replaced" "I", Cond.methodLink RX3 50 yX0_workOut, Cond.instanceMethod yX0_workOut, Cond.selects RX0 yX0_workOut yX0_workOut, Cond.initialized RX0, Cond.code yX0_workOut cX0_workOut 6 none, Cond.fieldLink RX0 9 "RainCells$Cells" "set" "I", Cond.fieldLink RX0 15 "RainCells$Cells" "owners" "[I", Cond.constant RX0 25 (1000000000), Cond.fieldLink RX0 26 "RainCells$Scene" "gauges" "I", Cond.fieldLink RX0 19 "RainCells$Cells" "plots" "[I"]
def wsX4_cellsOn_r3 : List Cond := [Cond.fieldLink RX0 22 "RainCells$Cells" "fars" "[I", Cond.fieldLink RX0 39 "RainCells$Scene" "reaches" "[I", Cond.static yX4_isIn, Cond.code yX4_isIn cX4_isIn 2 (some .boolean), Cond.methodLink RX0 35 yX0_claim, Cond.instanceMethod yX0_claim, Cond.selects RX0 yX0_claim yX0_claim, Cond.code yX0_claim cX0_claim 13 none, Cond.fieldLink RX0 42 "RainCells$Scene" "placeX" "[I", Cond.fieldLink RX0 45 "RainCells$Scene" "placeY" "[I", Cond.fieldLink RX0 48 "RainCells$Scene" "rowTo" "[I", Cond.fieldLink RX0 51 "RainCells$Scene" "rowFrom" "[I"]
def wsX4_cellsOn : List Cond := .code yX4_cellsOn cX4_cellsOn 3 (some (.object "RainCells$Cells")) :: ((wsX4_cellsOn_r1 ++ (wsX4_cellsOn_r2 ++ wsX4_cellsOn_r3)) ++ wsX40 ++ wsX30 ++ wsX10 ++ wsX00)
def wsX4_commonDivisor : List Cond := .code yX4_commonDivisor cX4_commonDivisor 6 (some .int) :: ([])
def wsX4_upper : List Cond := .code yX4_upper cX4_upper 3 (some .int) :: ([.methodLink RX4 220 yX4_commonDivisor, .static yX4_commonDivisor, .initialized RX4, .code yX4_commonDivisor cX4_commonDivisor 6 (some .int)])
def wsX4_lower : List Cond := .code yX4_lower cX4_lower 3 (some .int) :: ([.methodLink RX4 220 yX4_commonDivisor, .static yX4_commonDivisor, .initialized RX4, .code yX4_commonDivisor cX4_commonDivisor 6 (some .int)])
def wsX4_cell_r1 : List Cond := [Cond.fieldLink RX4 12 "RainCells" "scene" "LRainCells$Scene;", Cond.fieldLink RX4 126 "RainCells$Cells" "plots" "[I", Cond.fieldLink RX4 135 "RainCells$Cells" "fars" "[I", Cond.methodLink RX4 72 yX1_knows, Cond.instanceMethod yX1_knows, Cond.selects RX1 yX1_knows yX1_knows, Cond.initialized RX1, Cond.code yX1_knows cX1_knows 2 (some .boolean), Cond.fieldLink RX1 18 "RainCells$Scene" "gauges" "I", Cond.methodLink RX4 94 yX4_isDay, Cond.static yX4_isDay, Cond.initialized RX4, Cond.code yX4_isDay cX4_isDay 1 (some .boolean), Cond.methodLink RX4 122 yX4_cellsOn, Cond.instanceMethod yX4_cellsOn, Cond.selects RX4 yX4_cellsOn yX4_cellsOn, Cond.code yX4_cellsOn cX4_cellsOn 3 (some (.object "RainCells$Cells")), Cond.fieldLink RX4 27 "RainCells" "store" "LRainCells$Store;", Cond.fieldLink RX4 223 "RainCells$Store" "empty" "LRainCells$Cells;", Cond.methodLink RX4 107 yX1_workingOn, Cond.instanceMethod yX1_workingOn, Cond.selects RX1 yX1_workingOn yX1_workingOn, Cond.code yX1_workingOn cX1_workingOn 5 (some .int), Cond.fieldLink RX1 31 "RainCells$Scene" "out" "[J"]
def wsX4_cell_r2 : List Cond := [Cond.methodLink RX1 56 yX1_readingOf, Cond.instanceMethod yX1_readingOf, Cond.selects RX1 yX1_readingOf yX1_readingOf, Cond.code yX1_readingOf cX1_readingOf 3 (some .int), Cond.fieldLink RX1 35 "RainCells$Scene" "readings" "[I", Cond.static yX4_with, Cond.code yX4_with cX4_with 2 (some .int), Cond.methodLink RX4 113 yX3_lookUp, Cond.instanceMethod yX3_lookUp, Cond.selects RX3 yX3_lookUp yX3_lookUp, Cond.initialized RX3, Cond.code yX3_lookUp cX3_lookUp 4 (some (.object "RainCells$Cells")), Cond.fieldLink RX3 17 "RainCells$Store" "size" "I", Cond.fieldLink RX3 11 "RainCells$Store" "cells" "[LRainCells$Cells;", Cond.fieldLink RX3 39 "RainCells$Cells" "set" "I", Cond.fieldLink RX3 21 "RainCells$Store" "found" "I", Cond.fieldLink RX3 24 "RainCells$Store" "workedOut" "I", Cond.fieldLink RX3 35 "RainCells$Store" "lefts" "[I", Cond.methodLink RX3 42 yX3_putLast, Cond.instanceMethod yX3_putLast, Cond.selects RX3 yX3_putLast yX3_putLast, Cond.code yX3_putLast cX3_putLast 4 (some (.object "RainCells$Cells")), Cond.methodLink RX3 46 yX3_room, Cond.instanceMethod yX3_room]
def wsX4_cell_r3 : List Cond := [Cond.selects RX3 yX3_room yX3_room, Cond.code yX3_room cX3_room 1 (some (.object "RainCells$Cells")), Cond.fieldLink RX3 27 "RainCells$Store" "replaced" "I", Cond.methodLink RX3 50 yX0_workOut, Cond.instanceMethod yX0_workOut, Cond.selects RX0 yX0_workOut yX0_workOut, Cond.initialized RX0, Cond.code yX0_workOut cX0_workOut 6 none, Cond.fieldLink RX0 9 "RainCells$Cells" "set" "I", Cond.fieldLink RX0 15 "RainCells$Cells" "owners" "[I", Cond.constant RX0 25 (1000000000), Cond.fieldLink RX0 26 "RainCells$Scene" "gauges" "I", Cond.fieldLink RX0 19 "RainCells$Cells" "plots" "[I", Cond.fieldLink RX0 22 "RainCells$Cells" "fars" "[I", Cond.fieldLink RX0 39 "RainCells$Scene" "reaches" "[I", Cond.static yX4_isIn, Cond.code yX4_isIn cX4_isIn 2 (some .boolean), Cond.methodLink RX0 35 yX0_claim, Cond.instanceMethod yX0_claim, Cond.selects RX0 yX0_claim yX0_claim, Cond.code yX0_claim cX0_claim 13 none, Cond.fieldLink RX0 42 "RainCells$Scene" "placeX" "[I", Cond.fieldLink RX0 45 "RainCells$Scene" "placeY" "[I", Cond.fieldLink RX0 48 "RainCells$Scene" "rowTo" "[I"]
def wsX4_cell_r4 : List Cond := [Cond.fieldLink RX0 51 "RainCells$Scene" "rowFrom" "[I", Cond.methodLink RX4 52 yX1_plotCount, Cond.instanceMethod yX1_plotCount, Cond.selects RX1 yX1_plotCount yX1_plotCount, Cond.code yX1_plotCount cX1_plotCount 3 (some .int), Cond.fieldLink RX1 15 "RainCells$Scene" "rowTo" "[I", Cond.fieldLink RX1 9 "RainCells$Scene" "rowFrom" "[I", Cond.methodLink RX1 44 yX1_rowHasPlots, Cond.instanceMethod yX1_rowHasPlots, Cond.selects RX1 yX1_rowHasPlots yX1_rowHasPlots, Cond.code yX1_rowHasPlots cX1_rowHasPlots 2 (some .boolean), Cond.methodLink RX4 129 yX4_upper, Cond.static yX4_upper, Cond.code yX4_upper cX4_upper 3 (some .int), Cond.methodLink RX4 220 yX4_commonDivisor, Cond.static yX4_commonDivisor, Cond.code yX4_commonDivisor cX4_commonDivisor 6 (some .int), Cond.methodLink RX4 132 yX4_lower, Cond.static yX4_lower, Cond.code yX4_lower cX4_lower 3 (some .int)]
def wsX4_cell : List Cond := .code yX4_cell cX4_cell 5 (some .int) :: ((wsX4_cell_r1 ++ (wsX4_cell_r2 ++ (wsX4_cell_r3 ++ wsX4_cell_r4))) ++ wsX40 ++ wsX00 ++ wsX10 ++ wsX30)
def wsX4_border_r1 : List Cond := [Cond.fieldLink RX4 12 "RainCells" "scene" "LRainCells$Scene;", Cond.methodLink RX4 72 yX1_knows, Cond.instanceMethod yX1_knows, Cond.selects RX1 yX1_knows yX1_knows, Cond.initialized RX1, Cond.code yX1_knows cX1_knows 2 (some .boolean), Cond.fieldLink RX1 18 "RainCells$Scene" "gauges" "I", Cond.methodLink RX4 94 yX4_isDay, Cond.static yX4_isDay, Cond.initialized RX4, Cond.code yX4_isDay cX4_isDay 1 (some .boolean), Cond.methodLink RX4 122 yX4_cellsOn, Cond.instanceMethod yX4_cellsOn, Cond.selects RX4 yX4_cellsOn yX4_cellsOn, Cond.code yX4_cellsOn cX4_cellsOn 3 (some (.object "RainCells$Cells")), Cond.fieldLink RX4 27 "RainCells" "store" "LRainCells$Store;", Cond.fieldLink RX4 223 "RainCells$Store" "empty" "LRainCells$Cells;", Cond.methodLink RX4 107 yX1_workingOn, Cond.instanceMethod yX1_workingOn, Cond.selects RX1 yX1_workingOn yX1_workingOn, Cond.code yX1_workingOn cX1_workingOn 5 (some .int), Cond.fieldLink RX1 31 "RainCells$Scene" "out" "[J", Cond.methodLink RX1 56 yX1_readingOf, Cond.instanceMethod yX1_readingOf]
def wsX4_border_r2 : List Cond := [Cond.selects RX1 yX1_readingOf yX1_readingOf, Cond.code yX1_readingOf cX1_readingOf 3 (some .int), Cond.fieldLink RX1 35 "RainCells$Scene" "readings" "[I", Cond.static yX4_with, Cond.code yX4_with cX4_with 2 (some .int), Cond.methodLink RX4 113 yX3_lookUp, Cond.instanceMethod yX3_lookUp, Cond.selects RX3 yX3_lookUp yX3_lookUp, Cond.initialized RX3, Cond.code yX3_lookUp cX3_lookUp 4 (some (.object "RainCells$Cells")), Cond.fieldLink RX3 17 "RainCells$Store" "size" "I", Cond.fieldLink RX3 11 "RainCells$Store" "cells" "[LRainCells$Cells;", Cond.fieldLink RX3 39 "RainCells$Cells" "set" "I", Cond.fieldLink RX3 21 "RainCells$Store" "found" "I", Cond.fieldLink RX3 24 "RainCells$Store" "workedOut" "I", Cond.fieldLink RX3 35 "RainCells$Store" "lefts" "[I", Cond.methodLink RX3 42 yX3_putLast, Cond.instanceMethod yX3_putLast, Cond.selects RX3 yX3_putLast yX3_putLast, Cond.code yX3_putLast cX3_putLast 4 (some (.object "RainCells$Cells")), Cond.methodLink RX3 46 yX3_room, Cond.instanceMethod yX3_room, Cond.selects RX3 yX3_room yX3_room, Cond.code yX3_room cX3_room 1 (some (.object "RainCells$Cells"))]
def wsX4_border_r3 : List Cond := [Cond.fieldLink RX3 27 "RainCells$Store" "replaced" "I", Cond.methodLink RX3 50 yX0_workOut, Cond.instanceMethod yX0_workOut, Cond.selects RX0 yX0_workOut yX0_workOut, Cond.initialized RX0, Cond.code yX0_workOut cX0_workOut 6 none, Cond.fieldLink RX0 9 "RainCells$Cells" "set" "I", Cond.fieldLink RX0 15 "RainCells$Cells" "owners" "[I", Cond.constant RX0 25 (1000000000), Cond.fieldLink RX0 26 "RainCells$Scene" "gauges" "I", Cond.fieldLink RX0 19 "RainCells$Cells" "plots" "[I", Cond.fieldLink RX0 22 "RainCells$Cells" "fars" "[I", Cond.fieldLink RX0 39 "RainCells$Scene" "reaches" "[I", Cond.static yX4_isIn, Cond.code yX4_isIn cX4_isIn 2 (some .boolean), Cond.methodLink RX0 35 yX0_claim, Cond.instanceMethod yX0_claim, Cond.selects RX0 yX0_claim yX0_claim, Cond.code yX0_claim cX0_claim 13 none, Cond.fieldLink RX0 42 "RainCells$Scene" "placeX" "[I", Cond.fieldLink RX0 45 "RainCells$Scene" "placeY" "[I", Cond.fieldLink RX0 48 "RainCells$Scene" "rowTo" "[I", Cond.fieldLink RX0 51 "RainCells$Scene" "rowFrom" "[I", Cond.methodLink RX4 138 yX0_sidesTo]
def wsX4_border_r4 : List Cond := [Cond.instanceMethod yX0_sidesTo, Cond.selects RX0 yX0_sidesTo yX0_sidesTo, Cond.code yX0_sidesTo cX0_sidesTo 6 (some .int), Cond.methodLink RX0 57 yX0_ownerAt, Cond.instanceMethod yX0_ownerAt, Cond.selects RX0 yX0_ownerAt yX0_ownerAt, Cond.code yX0_ownerAt cX0_ownerAt 3 (some .int), Cond.static yX4_isPlot, Cond.code yX4_isPlot cX4_isPlot 2 (some .boolean)]
def wsX4_border : List Cond := .code yX4_border cX4_border 4 (some .int) :: ((wsX4_border_r1 ++ (wsX4_border_r2 ++ (wsX4_border_r3 ++ wsX4_border_r4))) ++ wsX40 ++ wsX10 ++ wsX30 ++ wsX00)
def wsX4_neighbours_r1 : List Cond := [Cond.fieldLink RX4 12 "RainCells" "scene" "LRainCells$Scene;", Cond.methodLink RX4 72 yX1_knows, Cond.instanceMethod yX1_knows, Cond.selects RX1 yX1_knows yX1_knows, Cond.initialized RX1, Cond.code yX1_knows cX1_knows 2 (some .boolean), Cond.fieldLink RX1 18 "RainCells$Scene" "gauges" "I", Cond.methodLink RX4 94 yX4_isDay, Cond.static yX4_isDay, Cond.initialized RX4, Cond.code yX4_isDay cX4_isDay 1 (some .boolean), Cond.methodLink RX4 122 yX4_cellsOn, Cond.instanceMethod yX4_cellsOn, Cond.selects RX4 yX4_cellsOn yX4_cellsOn, Cond.code yX4_cellsOn cX4_cellsOn 3 (some (.object "RainCells$Cells")), Cond.fieldLink RX4 27 "RainCells" "store" "LRainCells$Store;", Cond.fieldLink RX4 223 "RainCells$Store" "empty" "LRainCells$Cells;", Cond.methodLink RX4 107 yX1_workingOn, Cond.instanceMethod yX1_workingOn, Cond.selects RX1 yX1_workingOn yX1_workingOn, Cond.code yX1_workingOn cX1_workingOn 5 (some .int), Cond.fieldLink RX1 31 "RainCells$Scene" "out" "[J", Cond.methodLink RX1 56 yX1_readingOf, Cond.instanceMethod yX1_readingOf]
def wsX4_neighbours_r2 : List Cond := [Cond.selects RX1 yX1_readingOf yX1_readingOf, Cond.code yX1_readingOf cX1_readingOf 3 (some .int), Cond.fieldLink RX1 35 "RainCells$Scene" "readings" "[I", Cond.static yX4_with, Cond.code yX4_with cX4_with 2 (some .int), Cond.methodLink RX4 113 yX3_lookUp, Cond.instanceMethod yX3_lookUp, Cond.selects RX3 yX3_lookUp yX3_lookUp, Cond.initialized RX3, Cond.code yX3_lookUp cX3_lookUp 4 (some (.object "RainCells$Cells")), Cond.fieldLink RX3 17 "RainCells$Store" "size" "I", Cond.fieldLink RX3 11 "RainCells$Store" "cells" "[LRainCells$Cells;", Cond.fieldLink RX3 39 "RainCells$Cells" "set" "I", Cond.fieldLink RX3 21 "RainCells$Store" "found" "I", Cond.fieldLink RX3 24 "RainCells$Store" "workedOut" "I", Cond.fieldLink RX3 35 "RainCells$Store" "lefts" "[I", Cond.methodLink RX3 42 yX3_putLast, Cond.instanceMethod yX3_putLast, Cond.selects RX3 yX3_putLast yX3_putLast, Cond.code yX3_putLast cX3_putLast 4 (some (.object "RainCells$Cells")), Cond.methodLink RX3 46 yX3_room, Cond.instanceMethod yX3_room, Cond.selects RX3 yX3_room yX3_room, Cond.code yX3_room cX3_room 1 (some (.object "RainCells$Cells"))]
def wsX4_neighbours_r3 : List Cond := [Cond.fieldLink RX3 27 "RainCells$Store" "replaced" "I", Cond.methodLink RX3 50 yX0_workOut, Cond.instanceMethod yX0_workOut, Cond.selects RX0 yX0_workOut yX0_workOut, Cond.initialized RX0, Cond.code yX0_workOut cX0_workOut 6 none, Cond.fieldLink RX0 9 "RainCells$Cells" "set" "I", Cond.fieldLink RX0 15 "RainCells$Cells" "owners" "[I", Cond.constant RX0 25 (1000000000), Cond.fieldLink RX0 26 "RainCells$Scene" "gauges" "I", Cond.fieldLink RX0 19 "RainCells$Cells" "plots" "[I", Cond.fieldLink RX0 22 "RainCells$Cells" "fars" "[I", Cond.fieldLink RX0 39 "RainCells$Scene" "reaches" "[I", Cond.static yX4_isIn, Cond.code yX4_isIn cX4_isIn 2 (some .boolean), Cond.methodLink RX0 35 yX0_claim, Cond.instanceMethod yX0_claim, Cond.selects RX0 yX0_claim yX0_claim, Cond.code yX0_claim cX0_claim 13 none, Cond.fieldLink RX0 42 "RainCells$Scene" "placeX" "[I", Cond.fieldLink RX0 45 "RainCells$Scene" "placeY" "[I", Cond.fieldLink RX0 48 "RainCells$Scene" "rowTo" "[I", Cond.fieldLink RX0 51 "RainCells$Scene" "rowFrom" "[I", Cond.methodLink RX4 141 yX0_touching]
def wsX4_neighbours_r4 : List Cond := [Cond.instanceMethod yX0_touching, Cond.selects RX0 yX0_touching yX0_touching, Cond.code yX0_touching cX0_touching 5 (some .int), Cond.methodLink RX0 57 yX0_ownerAt, Cond.instanceMethod yX0_ownerAt, Cond.selects RX0 yX0_ownerAt yX0_ownerAt, Cond.code yX0_ownerAt cX0_ownerAt 3 (some .int), Cond.static yX4_isPlot, Cond.code yX4_isPlot cX4_isPlot 2 (some .boolean), Cond.methodLink RX0 61 yX0_ownersAt, Cond.instanceMethod yX0_ownersAt, Cond.selects RX0 yX0_ownersAt yX0_ownersAt, Cond.code yX0_ownersAt cX0_ownersAt 4 (some .int), Cond.static yX4_without, Cond.code yX4_without cX4_without 2 (some .int)]
def wsX4_neighbours : List Cond := .code yX4_neighbours cX4_neighbours 3 (some .int) :: ((wsX4_neighbours_r1 ++ (wsX4_neighbours_r2 ++ (wsX4_neighbours_r3 ++ wsX4_neighbours_r4))) ++ wsX40 ++ wsX10 ++ wsX30 ++ wsX00)
def wsX4_isPart : List Cond := .code yX4_isPart cX4_isPart 1 (some .boolean) :: ([])
def wsX4_hasMean_r1 : List Cond := [Cond.fieldLink RX4 12 "RainCells" "scene" "LRainCells$Scene;", Cond.methodLink RX4 107 yX1_workingOn, Cond.instanceMethod yX1_workingOn, Cond.selects RX1 yX1_workingOn yX1_workingOn, Cond.initialized RX1, Cond.code yX1_workingOn cX1_workingOn 5 (some .int), Cond.fieldLink RX1 18 "RainCells$Scene" "gauges" "I", Cond.fieldLink RX1 31 "RainCells$Scene" "out" "[J", Cond.methodLink RX1 56 yX1_readingOf, Cond.instanceMethod yX1_readingOf, Cond.selects RX1 yX1_readingOf yX1_readingOf, Cond.code yX1_readingOf cX1_readingOf 3 (some .int), Cond.fieldLink RX1 35 "RainCells$Scene" "readings" "[I", Cond.static yX4_with, Cond.initialized RX4, Cond.code yX4_with cX4_with 2 (some .int), Cond.methodLink RX4 52 yX1_plotCount, Cond.instanceMethod yX1_plotCount, Cond.selects RX1 yX1_plotCount yX1_plotCount, Cond.code yX1_plotCount cX1_plotCount 3 (some .int), Cond.fieldLink RX1 15 "RainCells$Scene" "rowTo" "[I", Cond.fieldLink RX1 9 "RainCells$Scene" "rowFrom" "[I", Cond.methodLink RX1 44 yX1_rowHasPlots, Cond.instanceMethod yX1_rowHasPlots]
def wsX4_hasMean_r2 : List Cond := [Cond.selects RX1 yX1_rowHasPlots yX1_rowHasPlots, Cond.code yX1_rowHasPlots cX1_rowHasPlots 2 (some .boolean)]
def wsX4_hasMean : List Cond := .code yX4_hasMean cX4_hasMean 2 (some .boolean) :: ((wsX4_hasMean_r1 ++ wsX4_hasMean_r2) ++ wsX40 ++ wsX10)
def wsX4_rainOn_r1 : List Cond := [Cond.fieldLink RX4 12 "RainCells" "scene" "LRainCells$Scene;", Cond.fieldLink RX4 63 "RainCells$Scene" "gauges" "I", Cond.fieldLink RX4 126 "RainCells$Cells" "plots" "[I", Cond.methodLink RX4 122 yX4_cellsOn, Cond.instanceMethod yX4_cellsOn, Cond.selects RX4 yX4_cellsOn yX4_cellsOn, Cond.initialized RX4, Cond.code yX4_cellsOn cX4_cellsOn 3 (some (.object "RainCells$Cells")), Cond.fieldLink RX4 27 "RainCells" "store" "LRainCells$Store;", Cond.fieldLink RX4 223 "RainCells$Store" "empty" "LRainCells$Cells;", Cond.methodLink RX4 107 yX1_workingOn, Cond.instanceMethod yX1_workingOn, Cond.selects RX1 yX1_workingOn yX1_workingOn, Cond.initialized RX1, Cond.code yX1_workingOn cX1_workingOn 5 (some .int), Cond.fieldLink RX1 18 "RainCells$Scene" "gauges" "I", Cond.fieldLink RX1 31 "RainCells$Scene" "out" "[J", Cond.methodLink RX1 56 yX1_readingOf, Cond.instanceMethod yX1_readingOf, Cond.selects RX1 yX1_readingOf yX1_readingOf, Cond.code yX1_readingOf cX1_readingOf 3 (some .int), Cond.fieldLink RX1 35 "RainCells$Scene" "readings" "[I", Cond.static yX4_with, Cond.code yX4_with cX4_with 2 (some .int)]
def wsX4_rainOn_r2 : List Cond := [Cond.methodLink RX4 113 yX3_lookUp, Cond.instanceMethod yX3_lookUp, Cond.selects RX3 yX3_lookUp yX3_lookUp, Cond.initialized RX3, Cond.code yX3_lookUp cX3_lookUp 4 (some (.object "RainCells$Cells")), Cond.fieldLink RX3 17 "RainCells$Store" "size" "I", Cond.fieldLink RX3 11 "RainCells$Store" "cells" "[LRainCells$Cells;", Cond.fieldLink RX3 39 "RainCells$Cells" "set" "I", Cond.fieldLink RX3 21 "RainCells$Store" "found" "I", Cond.fieldLink RX3 24 "RainCells$Store" "workedOut" "I", Cond.fieldLink RX3 35 "RainCells$Store" "lefts" "[I", Cond.methodLink RX3 42 yX3_putLast, Cond.instanceMethod yX3_putLast, Cond.selects RX3 yX3_putLast yX3_putLast, Cond.code yX3_putLast cX3_putLast 4 (some (.object "RainCells$Cells")), Cond.methodLink RX3 46 yX3_room, Cond.instanceMethod yX3_room, Cond.selects RX3 yX3_room yX3_room, Cond.code yX3_room cX3_room 1 (some (.object "RainCells$Cells")), Cond.fieldLink RX3 27 "RainCells$Store" "replaced" "I", Cond.methodLink RX3 50 yX0_workOut, Cond.instanceMethod yX0_workOut, Cond.selects RX0 yX0_workOut yX0_workOut, Cond.initialized RX0]
def wsX4_rainOn_r3 : List Cond := [Cond.code yX0_workOut cX0_workOut 6 none, Cond.fieldLink RX0 9 "RainCells$Cells" "set" "I", Cond.fieldLink RX0 15 "RainCells$Cells" "owners" "[I", Cond.constant RX0 25 (1000000000), Cond.fieldLink RX0 26 "RainCells$Scene" "gauges" "I", Cond.fieldLink RX0 19 "RainCells$Cells" "plots" "[I", Cond.fieldLink RX0 22 "RainCells$Cells" "fars" "[I", Cond.fieldLink RX0 39 "RainCells$Scene" "reaches" "[I", Cond.static yX4_isIn, Cond.code yX4_isIn cX4_isIn 2 (some .boolean), Cond.methodLink RX0 35 yX0_claim, Cond.instanceMethod yX0_claim, Cond.selects RX0 yX0_claim yX0_claim, Cond.code yX0_claim cX0_claim 13 none, Cond.fieldLink RX0 42 "RainCells$Scene" "placeX" "[I", Cond.fieldLink RX0 45 "RainCells$Scene" "placeY" "[I", Cond.fieldLink RX0 48 "RainCells$Scene" "rowTo" "[I", Cond.fieldLink RX0 51 "RainCells$Scene" "rowFrom" "[I", Cond.methodLink RX4 97 yX1_readingOf]
def wsX4_rainOn : List Cond := .code yX4_rainOn cX4_rainOn 5 (some .int) :: ((wsX4_rainOn_r1 ++ (wsX4_rainOn_r2 ++ wsX4_rainOn_r3)) ++ wsX40 ++ wsX10 ++ wsX00 ++ wsX30)
def wsX4_part : List Cond := .code yX4_part cX4_part 3 (some .int) :: ([.methodLink RX4 129 yX4_upper, .static yX4_upper, .initialized RX4, .code yX4_upper cX4_upper 3 (some .int), .methodLink RX4 220 yX4_commonDivisor, .static yX4_commonDivisor, .code yX4_commonDivisor cX4_commonDivisor 6 (some .int), .methodLink RX4 132 yX4_lower, .static yX4_lower, .code yX4_lower cX4_lower 3 (some .int)])
def wsX4_mean_r1 : List Cond := [Cond.fieldLink RX4 12 "RainCells" "scene" "LRainCells$Scene;", Cond.methodLink RX4 94 yX4_isDay, Cond.static yX4_isDay, Cond.initialized RX4, Cond.code yX4_isDay cX4_isDay 1 (some .boolean), Cond.methodLink RX4 144 yX4_isPart, Cond.static yX4_isPart, Cond.code yX4_isPart cX4_isPart 1 (some .boolean), Cond.methodLink RX4 147 yX4_hasMean, Cond.instanceMethod yX4_hasMean, Cond.selects RX4 yX4_hasMean yX4_hasMean, Cond.code yX4_hasMean cX4_hasMean 2 (some .boolean), Cond.methodLink RX4 107 yX1_workingOn, Cond.instanceMethod yX1_workingOn, Cond.selects RX1 yX1_workingOn yX1_workingOn, Cond.initialized RX1, Cond.code yX1_workingOn cX1_workingOn 5 (some .int), Cond.fieldLink RX1 18 "RainCells$Scene" "gauges" "I", Cond.fieldLink RX1 31 "RainCells$Scene" "out" "[J", Cond.methodLink RX1 56 yX1_readingOf, Cond.instanceMethod yX1_readingOf, Cond.selects RX1 yX1_readingOf yX1_readingOf, Cond.code yX1_readingOf cX1_readingOf 3 (some .int), Cond.fieldLink RX1 35 "RainCells$Scene" "readings" "[I"]
def wsX4_mean_r2 : List Cond := [Cond.static yX4_with, Cond.code yX4_with cX4_with 2 (some .int), Cond.methodLink RX4 52 yX1_plotCount, Cond.instanceMethod yX1_plotCount, Cond.selects RX1 yX1_plotCount yX1_plotCount, Cond.code yX1_plotCount cX1_plotCount 3 (some .int), Cond.fieldLink RX1 15 "RainCells$Scene" "rowTo" "[I", Cond.fieldLink RX1 9 "RainCells$Scene" "rowFrom" "[I", Cond.methodLink RX1 44 yX1_rowHasPlots, Cond.instanceMethod yX1_rowHasPlots, Cond.selects RX1 yX1_rowHasPlots yX1_rowHasPlots, Cond.code yX1_rowHasPlots cX1_rowHasPlots 2 (some .boolean), Cond.methodLink RX4 150 yX4_rainOn, Cond.instanceMethod yX4_rainOn, Cond.selects RX4 yX4_rainOn yX4_rainOn, Cond.code yX4_rainOn cX4_rainOn 5 (some .int), Cond.fieldLink RX4 63 "RainCells$Scene" "gauges" "I", Cond.fieldLink RX4 126 "RainCells$Cells" "plots" "[I", Cond.methodLink RX4 122 yX4_cellsOn, Cond.instanceMethod yX4_cellsOn, Cond.selects RX4 yX4_cellsOn yX4_cellsOn, Cond.code yX4_cellsOn cX4_cellsOn 3 (some (.object "RainCells$Cells")), Cond.fieldLink RX4 27 "RainCells" "store" "LRainCells$Store;", Cond.fieldLink RX4 223 "RainCells$Store" "empty" "LRainCells$Cells;"]
def wsX4_mean_r3 : List Cond := [Cond.methodLink RX4 113 yX3_lookUp, Cond.instanceMethod yX3_lookUp, Cond.selects RX3 yX3_lookUp yX3_lookUp, Cond.initialized RX3, Cond.code yX3_lookUp cX3_lookUp 4 (some (.object "RainCells$Cells")), Cond.fieldLink RX3 17 "RainCells$Store" "size" "I", Cond.fieldLink RX3 11 "RainCells$Store" "cells" "[LRainCells$Cells;", Cond.fieldLink RX3 39 "RainCells$Cells" "set" "I", Cond.fieldLink RX3 21 "RainCells$Store" "found" "I", Cond.fieldLink RX3 24 "RainCells$Store" "workedOut" "I", Cond.fieldLink RX3 35 "RainCells$Store" "lefts" "[I", Cond.methodLink RX3 42 yX3_putLast, Cond.instanceMethod yX3_putLast, Cond.selects RX3 yX3_putLast yX3_putLast, Cond.code yX3_putLast cX3_putLast 4 (some (.object "RainCells$Cells")), Cond.methodLink RX3 46 yX3_room, Cond.instanceMethod yX3_room, Cond.selects RX3 yX3_room yX3_room, Cond.code yX3_room cX3_room 1 (some (.object "RainCells$Cells")), Cond.fieldLink RX3 27 "RainCells$Store" "replaced" "I", Cond.methodLink RX3 50 yX0_workOut, Cond.instanceMethod yX0_workOut, Cond.selects RX0 yX0_workOut yX0_workOut, Cond.initialized RX0]
def wsX4_mean_r4 : List Cond := [Cond.code yX0_workOut cX0_workOut 6 none, Cond.fieldLink RX0 9 "RainCells$Cells" "set" "I", Cond.fieldLink RX0 15 "RainCells$Cells" "owners" "[I", Cond.constant RX0 25 (1000000000), Cond.fieldLink RX0 26 "RainCells$Scene" "gauges" "I", Cond.fieldLink RX0 19 "RainCells$Cells" "plots" "[I", Cond.fieldLink RX0 22 "RainCells$Cells" "fars" "[I", Cond.fieldLink RX0 39 "RainCells$Scene" "reaches" "[I", Cond.static yX4_isIn, Cond.code yX4_isIn cX4_isIn 2 (some .boolean), Cond.methodLink RX0 35 yX0_claim, Cond.instanceMethod yX0_claim, Cond.selects RX0 yX0_claim yX0_claim, Cond.code yX0_claim cX0_claim 13 none, Cond.fieldLink RX0 42 "RainCells$Scene" "placeX" "[I", Cond.fieldLink RX0 45 "RainCells$Scene" "placeY" "[I", Cond.fieldLink RX0 48 "RainCells$Scene" "rowTo" "[I", Cond.fieldLink RX0 51 "RainCells$Scene" "rowFrom" "[I", Cond.methodLink RX4 97 yX1_readingOf, Cond.methodLink RX4 153 yX4_part, Cond.static yX4_part, Cond.code yX4_part cX4_part 3 (some .int), Cond.methodLink RX4 129 yX4_upper, Cond.static yX4_upper]
def wsX4_mean_r5 : List Cond := [Cond.code yX4_upper cX4_upper 3 (some .int), Cond.methodLink RX4 220 yX4_commonDivisor, Cond.static yX4_commonDivisor, Cond.code yX4_commonDivisor cX4_commonDivisor 6 (some .int), Cond.methodLink RX4 132 yX4_lower, Cond.static yX4_lower, Cond.code yX4_lower cX4_lower 3 (some .int)]
def wsX4_mean : List Cond := .code yX4_mean cX4_mean 3 (some .int) :: ((wsX4_mean_r1 ++ (wsX4_mean_r2 ++ (wsX4_mean_r3 ++ (wsX4_mean_r4 ++ wsX4_mean_r5)))) ++ wsX40 ++ wsX10 ++ wsX00 ++ wsX30)
def wsX4_total_r1 : List Cond := [Cond.fieldLink RX4 12 "RainCells" "scene" "LRainCells$Scene;", Cond.methodLink RX4 83 yX4_areDays, Cond.static yX4_areDays, Cond.initialized RX4, Cond.code yX4_areDays cX4_areDays 2 (some .boolean), Cond.methodLink RX4 94 yX4_isDay, Cond.static yX4_isDay, Cond.code yX4_isDay cX4_isDay 1 (some .boolean), Cond.methodLink RX4 147 yX4_hasMean, Cond.instanceMethod yX4_hasMean, Cond.selects RX4 yX4_hasMean yX4_hasMean, Cond.code yX4_hasMean cX4_hasMean 2 (some .boolean), Cond.methodLink RX4 107 yX1_workingOn, Cond.instanceMethod yX1_workingOn, Cond.selects RX1 yX1_workingOn yX1_workingOn, Cond.initialized RX1, Cond.code yX1_workingOn cX1_workingOn 5 (some .int), Cond.fieldLink RX1 18 "RainCells$Scene" "gauges" "I", Cond.fieldLink RX1 31 "RainCells$Scene" "out" "[J", Cond.methodLink RX1 56 yX1_readingOf, Cond.instanceMethod yX1_readingOf, Cond.selects RX1 yX1_readingOf yX1_readingOf, Cond.code yX1_readingOf cX1_readingOf 3 (some .int), Cond.fieldLink RX1 35 "RainCells$Scene" "readings" "[I"]
def wsX4_total_r2 : List Cond := [Cond.static yX4_with, Cond.code yX4_with cX4_with 2 (some .int), Cond.methodLink RX4 52 yX1_plotCount, Cond.instanceMethod yX1_plotCount, Cond.selects RX1 yX1_plotCount yX1_plotCount, Cond.code yX1_plotCount cX1_plotCount 3 (some .int), Cond.fieldLink RX1 15 "RainCells$Scene" "rowTo" "[I", Cond.fieldLink RX1 9 "RainCells$Scene" "rowFrom" "[I", Cond.methodLink RX1 44 yX1_rowHasPlots, Cond.instanceMethod yX1_rowHasPlots, Cond.selects RX1 yX1_rowHasPlots yX1_rowHasPlots, Cond.code yX1_rowHasPlots cX1_rowHasPlots 2 (some .boolean), Cond.methodLink RX4 150 yX4_rainOn, Cond.instanceMethod yX4_rainOn, Cond.selects RX4 yX4_rainOn yX4_rainOn, Cond.code yX4_rainOn cX4_rainOn 5 (some .int), Cond.fieldLink RX4 63 "RainCells$Scene" "gauges" "I", Cond.fieldLink RX4 126 "RainCells$Cells" "plots" "[I", Cond.methodLink RX4 122 yX4_cellsOn, Cond.instanceMethod yX4_cellsOn, Cond.selects RX4 yX4_cellsOn yX4_cellsOn, Cond.code yX4_cellsOn cX4_cellsOn 3 (some (.object "RainCells$Cells")), Cond.fieldLink RX4 27 "RainCells" "store" "LRainCells$Store;", Cond.fieldLink RX4 223 "RainCells$Store" "empty" "LRainCells$Cells;"]
def wsX4_total_r3 : List Cond := [Cond.methodLink RX4 113 yX3_lookUp, Cond.instanceMethod yX3_lookUp, Cond.selects RX3 yX3_lookUp yX3_lookUp, Cond.initialized RX3, Cond.code yX3_lookUp cX3_lookUp 4 (some (.object "RainCells$Cells")), Cond.fieldLink RX3 17 "RainCells$Store" "size" "I", Cond.fieldLink RX3 11 "RainCells$Store" "cells" "[LRainCells$Cells;", Cond.fieldLink RX3 39 "RainCells$Cells" "set" "I", Cond.fieldLink RX3 21 "RainCells$Store" "found" "I", Cond.fieldLink RX3 24 "RainCells$Store" "workedOut" "I", Cond.fieldLink RX3 35 "RainCells$Store" "lefts" "[I", Cond.methodLink RX3 42 yX3_putLast, Cond.instanceMethod yX3_putLast, Cond.selects RX3 yX3_putLast yX3_putLast, Cond.code yX3_putLast cX3_putLast 4 (some (.object "RainCells$Cells")), Cond.methodLink RX3 46 yX3_room, Cond.instanceMethod yX3_room, Cond.selects RX3 yX3_room yX3_room, Cond.code yX3_room cX3_room 1 (some (.object "RainCells$Cells")), Cond.fieldLink RX3 27 "RainCells$Store" "replaced" "I", Cond.methodLink RX3 50 yX0_workOut, Cond.instanceMethod yX0_workOut, Cond.selects RX0 yX0_workOut yX0_workOut, Cond.initialized RX0]
def wsX4_total_r4 : List Cond := [Cond.code yX0_workOut cX0_workOut 6 none, Cond.fieldLink RX0 9 "RainCells$Cells" "set" "I", Cond.fieldLink RX0 15 "RainCells$Cells" "owners" "[I", Cond.constant RX0 25 (1000000000), Cond.fieldLink RX0 26 "RainCells$Scene" "gauges" "I", Cond.fieldLink RX0 19 "RainCells$Cells" "plots" "[I", Cond.fieldLink RX0 22 "RainCells$Cells" "fars" "[I", Cond.fieldLink RX0 39 "RainCells$Scene" "reaches" "[I", Cond.static yX4_isIn, Cond.code yX4_isIn cX4_isIn 2 (some .boolean), Cond.methodLink RX0 35 yX0_claim, Cond.instanceMethod yX0_claim, Cond.selects RX0 yX0_claim yX0_claim, Cond.code yX0_claim cX0_claim 13 none, Cond.fieldLink RX0 42 "RainCells$Scene" "placeX" "[I", Cond.fieldLink RX0 45 "RainCells$Scene" "placeY" "[I", Cond.fieldLink RX0 48 "RainCells$Scene" "rowTo" "[I", Cond.fieldLink RX0 51 "RainCells$Scene" "rowFrom" "[I", Cond.methodLink RX4 97 yX1_readingOf, Cond.methodLink RX4 153 yX4_part, Cond.static yX4_part, Cond.code yX4_part cX4_part 3 (some .int), Cond.methodLink RX4 129 yX4_upper, Cond.static yX4_upper]
def wsX4_total_r5 : List Cond := [Cond.code yX4_upper cX4_upper 3 (some .int), Cond.methodLink RX4 220 yX4_commonDivisor, Cond.static yX4_commonDivisor, Cond.code yX4_commonDivisor cX4_commonDivisor 6 (some .int), Cond.methodLink RX4 132 yX4_lower, Cond.static yX4_lower, Cond.code yX4_lower cX4_lower 3 (some .int)]
def wsX4_total : List Cond := .code yX4_total cX4_total 7 (some .int) :: ((wsX4_total_r1 ++ (wsX4_total_r2 ++ (wsX4_total_r3 ++ (wsX4_total_r4 ++ wsX4_total_r5)))) ++ wsX40 ++ wsX10 ++ wsX00 ++ wsX30)
def wsX4_spread_r1 : List Cond := [Cond.fieldLink RX4 12 "RainCells" "scene" "LRainCells$Scene;", Cond.fieldLink RX4 27 "RainCells" "store" "LRainCells$Store;", Cond.methodLink RX4 94 yX4_isDay, Cond.static yX4_isDay, Cond.initialized RX4, Cond.code yX4_isDay cX4_isDay 1 (some .boolean), Cond.methodLink RX4 107 yX1_workingOn, Cond.instanceMethod yX1_workingOn, Cond.selects RX1 yX1_workingOn yX1_workingOn, Cond.initialized RX1, Cond.code yX1_workingOn cX1_workingOn 5 (some .int), Cond.fieldLink RX1 18 "RainCells$Scene" "gauges" "I", Cond.fieldLink RX1 31 "RainCells$Scene" "out" "[J", Cond.methodLink RX1 56 yX1_readingOf, Cond.instanceMethod yX1_readingOf, Cond.selects RX1 yX1_readingOf yX1_readingOf, Cond.code yX1_readingOf cX1_readingOf 3 (some .int), Cond.fieldLink RX1 35 "RainCells$Scene" "readings" "[I", Cond.static yX4_with, Cond.code yX4_with cX4_with 2 (some .int), Cond.methodLink RX4 113 yX3_lookUp, Cond.instanceMethod yX3_lookUp, Cond.selects RX3 yX3_lookUp yX3_lookUp, Cond.initialized RX3]
def wsX4_spread_r2 : List Cond := [Cond.code yX3_lookUp cX3_lookUp 4 (some (.object "RainCells$Cells")), Cond.fieldLink RX3 17 "RainCells$Store" "size" "I", Cond.fieldLink RX3 11 "RainCells$Store" "cells" "[LRainCells$Cells;", Cond.fieldLink RX3 39 "RainCells$Cells" "set" "I", Cond.fieldLink RX3 21 "RainCells$Store" "found" "I", Cond.fieldLink RX3 24 "RainCells$Store" "workedOut" "I", Cond.fieldLink RX3 35 "RainCells$Store" "lefts" "[I", Cond.methodLink RX3 42 yX3_putLast, Cond.instanceMethod yX3_putLast, Cond.selects RX3 yX3_putLast yX3_putLast, Cond.code yX3_putLast cX3_putLast 4 (some (.object "RainCells$Cells")), Cond.methodLink RX3 46 yX3_room, Cond.instanceMethod yX3_room, Cond.selects RX3 yX3_room yX3_room, Cond.code yX3_room cX3_room 1 (some (.object "RainCells$Cells")), Cond.fieldLink RX3 27 "RainCells$Store" "replaced" "I", Cond.methodLink RX3 50 yX0_workOut, Cond.instanceMethod yX0_workOut, Cond.selects RX0 yX0_workOut yX0_workOut, Cond.initialized RX0, Cond.code yX0_workOut cX0_workOut 6 none, Cond.fieldLink RX0 9 "RainCells$Cells" "set" "I", Cond.fieldLink RX0 15 "RainCells$Cells" "owners" "[I", Cond.constant RX0 25 (1000000000)]
def wsX4_spread_r3 : List Cond := [Cond.fieldLink RX0 26 "RainCells$Scene" "gauges" "I", Cond.fieldLink RX0 19 "RainCells$Cells" "plots" "[I", Cond.fieldLink RX0 22 "RainCells$Cells" "fars" "[I", Cond.fieldLink RX0 39 "RainCells$Scene" "reaches" "[I", Cond.static yX4_isIn, Cond.code yX4_isIn cX4_isIn 2 (some .boolean), Cond.methodLink RX0 35 yX0_claim, Cond.instanceMethod yX0_claim, Cond.selects RX0 yX0_claim yX0_claim, Cond.code yX0_claim cX0_claim 13 none, Cond.fieldLink RX0 42 "RainCells$Scene" "placeX" "[I", Cond.fieldLink RX0 45 "RainCells$Scene" "placeY" "[I", Cond.fieldLink RX0 48 "RainCells$Scene" "rowTo" "[I", Cond.fieldLink RX0 51 "RainCells$Scene" "rowFrom" "[I", Cond.methodLink RX4 156 yX0_farOfAll, Cond.instanceMethod yX0_farOfAll, Cond.selects RX0 yX0_farOfAll yX0_farOfAll, Cond.code yX0_farOfAll cX0_farOfAll 3 (some .int)]
def wsX4_spread : List Cond := .code yX4_spread cX4_spread 3 (some .int) :: ((wsX4_spread_r1 ++ (wsX4_spread_r2 ++ wsX4_spread_r3)) ++ wsX40 ++ wsX10 ++ wsX30 ++ wsX00)
def wsX4_next_r1 : List Cond := [Cond.fieldLink RX4 34 "RainCells" "search" "LRainCells$Search;", Cond.fieldLink RX4 12 "RainCells" "scene" "LRainCells$Scene;", Cond.fieldLink RX4 163 "RainCells$Search" "least" "I", Cond.constant RX4 166 (1000000000), Cond.fieldLink RX4 167 "RainCells$Search" "leastX" "I", Cond.fieldLink RX4 170 "RainCells$Search" "leastY" "I", Cond.methodLink RX4 94 yX4_isDay, Cond.static yX4_isDay, Cond.initialized RX4, Cond.code yX4_isDay cX4_isDay 1 (some .boolean), Cond.methodLink RX4 107 yX1_workingOn, Cond.instanceMethod yX1_workingOn, Cond.selects RX1 yX1_workingOn yX1_workingOn, Cond.initialized RX1, Cond.code yX1_workingOn cX1_workingOn 5 (some .int), Cond.fieldLink RX1 18 "RainCells$Scene" "gauges" "I", Cond.fieldLink RX1 31 "RainCells$Scene" "out" "[J", Cond.methodLink RX1 56 yX1_readingOf, Cond.instanceMethod yX1_readingOf, Cond.selects RX1 yX1_readingOf yX1_readingOf, Cond.code yX1_readingOf cX1_readingOf 3 (some .int), Cond.fieldLink RX1 35 "RainCells$Scene" "readings" "[I", Cond.static yX4_with, Cond.code yX4_with cX4_with 2 (some .int)]
def wsX4_next_r2 : List Cond := [Cond.methodLink RX4 159 yX2_run, Cond.instanceMethod yX2_run, Cond.selects RX2 yX2_run yX2_run, Cond.initialized RX2, Cond.code yX2_run cX2_run 5 none, Cond.fieldLink RX2 25 "RainCells$Search" "cells" "LRainCells$Cells;", Cond.fieldLink RX2 29 "RainCells$Search" "lefts" "[I", Cond.constant RX2 9 (1000000000), Cond.fieldLink RX2 10 "RainCells$Search" "least" "I", Cond.fieldLink RX2 50 "RainCells$Scene" "rowFrom" "[I", Cond.fieldLink RX2 55 "RainCells$Scene" "rowTo" "[I", Cond.methodLink RX2 42 yX0_workOut, Cond.instanceMethod yX0_workOut, Cond.selects RX0 yX0_workOut yX0_workOut, Cond.initialized RX0, Cond.code yX0_workOut cX0_workOut 6 none, Cond.fieldLink RX0 9 "RainCells$Cells" "set" "I", Cond.fieldLink RX0 15 "RainCells$Cells" "owners" "[I", Cond.constant RX0 25 (1000000000), Cond.fieldLink RX0 26 "RainCells$Scene" "gauges" "I", Cond.fieldLink RX0 19 "RainCells$Cells" "plots" "[I", Cond.fieldLink RX0 22 "RainCells$Cells" "fars" "[I", Cond.fieldLink RX0 39 "RainCells$Scene" "reaches" "[I", Cond.static yX4_isIn]
def wsX4_next_r3 : List Cond := [Cond.code yX4_isIn cX4_isIn 2 (some .boolean), Cond.methodLink RX0 35 yX0_claim, Cond.instanceMethod yX0_claim, Cond.selects RX0 yX0_claim yX0_claim, Cond.code yX0_claim cX0_claim 13 none, Cond.fieldLink RX0 42 "RainCells$Scene" "placeX" "[I", Cond.fieldLink RX0 45 "RainCells$Scene" "placeY" "[I", Cond.fieldLink RX0 48 "RainCells$Scene" "rowTo" "[I", Cond.fieldLink RX0 51 "RainCells$Scene" "rowFrom" "[I", Cond.methodLink RX2 46 yX2_readRow, Cond.instanceMethod yX2_readRow, Cond.selects RX2 yX2_readRow yX2_readRow, Cond.code yX2_readRow cX2_readRow 6 none, Cond.fieldLink RX2 36 "RainCells$Search" "rowMost" "[I", Cond.constant RX2 66 (-1000000000), Cond.fieldLink RX2 39 "RainCells$Search" "rowFar" "[I", Cond.fieldLink RX2 67 "RainCells$Cells" "owners" "[I", Cond.fieldLink RX2 33 "RainCells$Search" "fars" "[I", Cond.fieldLink RX2 70 "RainCells$Scene" "reaches" "[I", Cond.methodLink RX2 73 Lib.Math.max.name, Cond.static Lib.Math.max.name, Cond.initialized "java/lang/Math", Cond.code Lib.Math.max.name Lib.Math.max.code 2 (some .int), Cond.methodLink RX2 58 yX1_gaugeAt]
def wsX4_next_r4 : List Cond := [Cond.instanceMethod yX1_gaugeAt, Cond.selects RX1 yX1_gaugeAt yX1_gaugeAt, Cond.code yX1_gaugeAt cX1_gaugeAt 4 (some .int), Cond.fieldLink RX1 22 "RainCells$Scene" "placeX" "[I", Cond.fieldLink RX1 25 "RainCells$Scene" "placeY" "[I", Cond.methodLink RX2 62 yX2_tryAt, Cond.instanceMethod yX2_tryAt, Cond.selects RX2 yX2_tryAt yX2_tryAt, Cond.code yX2_tryAt cX2_tryAt 7 none, Cond.fieldLink RX2 16 "RainCells$Search" "leastX" "I", Cond.fieldLink RX2 19 "RainCells$Search" "leastY" "I", Cond.methodLink RX2 78 yX2_farOfRow, Cond.instanceMethod yX2_farOfRow, Cond.selects RX2 yX2_farOfRow yX2_farOfRow, Cond.code yX2_farOfRow cX2_farOfRow 10 (some .int)]
def wsX4_next : List Cond := .code yX4_next cX4_next 3 (some .int) :: ((wsX4_next_r1 ++ (wsX4_next_r2 ++ (wsX4_next_r3 ++ wsX4_next_r4))) ++ wsX40 ++ wsX20 ++ wsX10 ++ wsX00)
def wsX4_shared_r1 : List Cond := [Cond.fieldLink RX4 12 "RainCells" "scene" "LRainCells$Scene;", Cond.fieldLink RX4 27 "RainCells" "store" "LRainCells$Store;", Cond.methodLink RX4 72 yX1_knows, Cond.instanceMethod yX1_knows, Cond.selects RX1 yX1_knows yX1_knows, Cond.initialized RX1, Cond.code yX1_knows cX1_knows 2 (some .boolean), Cond.fieldLink RX1 18 "RainCells$Scene" "gauges" "I", Cond.methodLink RX4 94 yX4_isDay, Cond.static yX4_isDay, Cond.initialized RX4, Cond.code yX4_isDay cX4_isDay 1 (some .boolean), Cond.methodLink RX4 107 yX1_workingOn, Cond.instanceMethod yX1_workingOn, Cond.selects RX1 yX1_workingOn yX1_workingOn, Cond.code yX1_workingOn cX1_workingOn 5 (some .int), Cond.fieldLink RX1 31 "RainCells$Scene" "out" "[J", Cond.methodLink RX1 56 yX1_readingOf, Cond.instanceMethod yX1_readingOf, Cond.selects RX1 yX1_readingOf yX1_readingOf, Cond.code yX1_readingOf cX1_readingOf 3 (some .int), Cond.fieldLink RX1 35 "RainCells$Scene" "readings" "[I", Cond.static yX4_with, Cond.code yX4_with cX4_with 2 (some .int)]
def wsX4_shared_r2 : List Cond := [Cond.methodLink RX4 173 yX4_without, Cond.static yX4_without, Cond.code yX4_without cX4_without 2 (some .int), Cond.methodLink RX4 176 yX4_with, Cond.methodLink RX4 113 yX3_lookUp, Cond.instanceMethod yX3_lookUp, Cond.selects RX3 yX3_lookUp yX3_lookUp, Cond.initialized RX3, Cond.code yX3_lookUp cX3_lookUp 4 (some (.object "RainCells$Cells")), Cond.fieldLink RX3 17 "RainCells$Store" "size" "I", Cond.fieldLink RX3 11 "RainCells$Store" "cells" "[LRainCells$Cells;", Cond.fieldLink RX3 39 "RainCells$Cells" "set" "I", Cond.fieldLink RX3 21 "RainCells$Store" "found" "I", Cond.fieldLink RX3 24 "RainCells$Store" "workedOut" "I", Cond.fieldLink RX3 35 "RainCells$Store" "lefts" "[I", Cond.methodLink RX3 42 yX3_putLast, Cond.instanceMethod yX3_putLast, Cond.selects RX3 yX3_putLast yX3_putLast, Cond.code yX3_putLast cX3_putLast 4 (some (.object "RainCells$Cells")), Cond.methodLink RX3 46 yX3_room, Cond.instanceMethod yX3_room, Cond.selects RX3 yX3_room yX3_room, Cond.code yX3_room cX3_room 1 (some (.object "RainCells$Cells")), Cond.fieldLink RX3 27 "RainCells$Store" "replaced" "I"]
def wsX4_shared_r3 : List Cond := [Cond.methodLink RX3 50 yX0_workOut, Cond.instanceMethod yX0_workOut, Cond.selects RX0 yX0_workOut yX0_workOut, Cond.initialized RX0, Cond.code yX0_workOut cX0_workOut 6 none, Cond.fieldLink RX0 9 "RainCells$Cells" "set" "I", Cond.fieldLink RX0 15 "RainCells$Cells" "owners" "[I", Cond.constant RX0 25 (1000000000), Cond.fieldLink RX0 26 "RainCells$Scene" "gauges" "I", Cond.fieldLink RX0 19 "RainCells$Cells" "plots" "[I", Cond.fieldLink RX0 22 "RainCells$Cells" "fars" "[I", Cond.fieldLink RX0 39 "RainCells$Scene" "reaches" "[I", Cond.static yX4_isIn, Cond.code yX4_isIn cX4_isIn 2 (some .boolean), Cond.methodLink RX0 35 yX0_claim, Cond.instanceMethod yX0_claim, Cond.selects RX0 yX0_claim yX0_claim, Cond.code yX0_claim cX0_claim 13 none, Cond.fieldLink RX0 42 "RainCells$Scene" "placeX" "[I", Cond.fieldLink RX0 45 "RainCells$Scene" "placeY" "[I", Cond.fieldLink RX0 48 "RainCells$Scene" "rowTo" "[I", Cond.fieldLink RX0 51 "RainCells$Scene" "rowFrom" "[I", Cond.methodLink RX4 179 yX0_inBoth, Cond.instanceMethod yX0_inBoth]
def wsX4_shared_r4 : List Cond := [Cond.selects RX0 yX0_inBoth yX0_inBoth, Cond.code yX0_inBoth cX0_inBoth 6 (some .int)]
def wsX4_shared : List Cond := .code yX4_shared cX4_shared 7 (some .int) :: ((wsX4_shared_r1 ++ (wsX4_shared_r2 ++ (wsX4_shared_r3 ++ wsX4_shared_r4))) ++ wsX40 ++ wsX10 ++ wsX30 ++ wsX00)
def wsX4_rainOfOthers : List Cond := .code yX4_rainOfOthers cX4_rainOfOthers 8 (some .int) :: ([.fieldLink RX4 227 "RainCells$Cells" "owners" "[I", .fieldLink RX4 12 "RainCells" "scene" "LRainCells$Scene;", .methodLink RX4 97 yX1_readingOf, .instanceMethod yX1_readingOf, .selects RX1 yX1_readingOf yX1_readingOf, .initialized RX1, .code yX1_readingOf cX1_readingOf 3 (some .int), .fieldLink RX1 35 "RainCells$Scene" "readings" "[I"] ++ wsX00 ++ wsX40 ++ wsX10)
def wsX4_estimate_r1 : List Cond := [Cond.fieldLink RX4 12 "RainCells" "scene" "LRainCells$Scene;", Cond.fieldLink RX4 27 "RainCells" "store" "LRainCells$Store;", Cond.fieldLink RX4 126 "RainCells$Cells" "plots" "[I", Cond.methodLink RX4 72 yX1_knows, Cond.instanceMethod yX1_knows, Cond.selects RX1 yX1_knows yX1_knows, Cond.initialized RX1, Cond.code yX1_knows cX1_knows 2 (some .boolean), Cond.fieldLink RX1 18 "RainCells$Scene" "gauges" "I", Cond.methodLink RX4 94 yX4_isDay, Cond.static yX4_isDay, Cond.initialized RX4, Cond.code yX4_isDay cX4_isDay 1 (some .boolean), Cond.methodLink RX4 144 yX4_isPart, Cond.static yX4_isPart, Cond.code yX4_isPart cX4_isPart 1 (some .boolean), Cond.methodLink RX4 107 yX1_workingOn, Cond.instanceMethod yX1_workingOn, Cond.selects RX1 yX1_workingOn yX1_workingOn, Cond.code yX1_workingOn cX1_workingOn 5 (some .int), Cond.fieldLink RX1 31 "RainCells$Scene" "out" "[J", Cond.methodLink RX1 56 yX1_readingOf, Cond.instanceMethod yX1_readingOf, Cond.selects RX1 yX1_readingOf yX1_readingOf]
def wsX4_estimate_r2 : List Cond := [Cond.code yX1_readingOf cX1_readingOf 3 (some .int), Cond.fieldLink RX1 35 "RainCells$Scene" "readings" "[I", Cond.static yX4_with, Cond.code yX4_with cX4_with 2 (some .int), Cond.methodLink RX4 173 yX4_without, Cond.static yX4_without, Cond.code yX4_without cX4_without 2 (some .int), Cond.methodLink RX4 176 yX4_with, Cond.methodLink RX4 113 yX3_lookUp, Cond.instanceMethod yX3_lookUp, Cond.selects RX3 yX3_lookUp yX3_lookUp, Cond.initialized RX3, Cond.code yX3_lookUp cX3_lookUp 4 (some (.object "RainCells$Cells")), Cond.fieldLink RX3 17 "RainCells$Store" "size" "I", Cond.fieldLink RX3 11 "RainCells$Store" "cells" "[LRainCells$Cells;", Cond.fieldLink RX3 39 "RainCells$Cells" "set" "I", Cond.fieldLink RX3 21 "RainCells$Store" "found" "I", Cond.fieldLink RX3 24 "RainCells$Store" "workedOut" "I", Cond.fieldLink RX3 35 "RainCells$Store" "lefts" "[I", Cond.methodLink RX3 42 yX3_putLast, Cond.instanceMethod yX3_putLast, Cond.selects RX3 yX3_putLast yX3_putLast, Cond.code yX3_putLast cX3_putLast 4 (some (.object "RainCells$Cells")), Cond.methodLink RX3 46 yX3_room]
def wsX4_estimate_r3 : List Cond := [Cond.instanceMethod yX3_room, Cond.selects RX3 yX3_room yX3_room, Cond.code yX3_room cX3_room 1 (some (.object "RainCells$Cells")), Cond.fieldLink RX3 27 "RainCells$Store" "replaced" "I", Cond.methodLink RX3 50 yX0_workOut, Cond.instanceMethod yX0_workOut, Cond.selects RX0 yX0_workOut yX0_workOut, Cond.initialized RX0, Cond.code yX0_workOut cX0_workOut 6 none, Cond.fieldLink RX0 9 "RainCells$Cells" "set" "I", Cond.fieldLink RX0 15 "RainCells$Cells" "owners" "[I", Cond.constant RX0 25 (1000000000), Cond.fieldLink RX0 26 "RainCells$Scene" "gauges" "I", Cond.fieldLink RX0 19 "RainCells$Cells" "plots" "[I", Cond.fieldLink RX0 22 "RainCells$Cells" "fars" "[I", Cond.fieldLink RX0 39 "RainCells$Scene" "reaches" "[I", Cond.static yX4_isIn, Cond.code yX4_isIn cX4_isIn 2 (some .boolean), Cond.methodLink RX0 35 yX0_claim, Cond.instanceMethod yX0_claim, Cond.selects RX0 yX0_claim yX0_claim, Cond.code yX0_claim cX0_claim 13 none, Cond.fieldLink RX0 42 "RainCells$Scene" "placeX" "[I", Cond.fieldLink RX0 45 "RainCells$Scene" "placeY" "[I"]
def wsX4_estimate_r4 : List Cond := [Cond.fieldLink RX0 48 "RainCells$Scene" "rowTo" "[I", Cond.fieldLink RX0 51 "RainCells$Scene" "rowFrom" "[I", Cond.methodLink RX4 183 yX4_rainOfOthers, Cond.instanceMethod yX4_rainOfOthers, Cond.selects RX4 yX4_rainOfOthers yX4_rainOfOthers, Cond.code yX4_rainOfOthers cX4_rainOfOthers 8 (some .int), Cond.fieldLink RX4 227 "RainCells$Cells" "owners" "[I", Cond.methodLink RX4 97 yX1_readingOf, Cond.methodLink RX4 153 yX4_part, Cond.static yX4_part, Cond.code yX4_part cX4_part 3 (some .int), Cond.methodLink RX4 129 yX4_upper, Cond.static yX4_upper, Cond.code yX4_upper cX4_upper 3 (some .int), Cond.methodLink RX4 220 yX4_commonDivisor, Cond.static yX4_commonDivisor, Cond.code yX4_commonDivisor cX4_commonDivisor 6 (some .int), Cond.methodLink RX4 132 yX4_lower, Cond.static yX4_lower, Cond.code yX4_lower cX4_lower 3 (some .int)]
def wsX4_estimate : List Cond := .code yX4_estimate cX4_estimate 7 (some .int) :: ((wsX4_estimate_r1 ++ (wsX4_estimate_r2 ++ (wsX4_estimate_r3 ++ wsX4_estimate_r4))) ++ wsX40 ++ wsX00 ++ wsX10 ++ wsX30)
def wsX4_isDoubted_r1 : List Cond := [Cond.fieldLink RX4 12 "RainCells" "scene" "LRainCells$Scene;", Cond.fieldLink RX4 27 "RainCells" "store" "LRainCells$Store;", Cond.fieldLink RX4 126 "RainCells$Cells" "plots" "[I", Cond.methodLink RX4 230 Lib.Math.abs.name, Cond.static Lib.Math.abs.name, Cond.initialized "java/lang/Math", Cond.code Lib.Math.abs.name Lib.Math.abs.code 1 (some .int), Cond.methodLink RX4 107 yX1_workingOn, Cond.instanceMethod yX1_workingOn, Cond.selects RX1 yX1_workingOn yX1_workingOn, Cond.initialized RX1, Cond.code yX1_workingOn cX1_workingOn 5 (some .int), Cond.fieldLink RX1 18 "RainCells$Scene" "gauges" "I", Cond.fieldLink RX1 31 "RainCells$Scene" "out" "[J", Cond.methodLink RX1 56 yX1_readingOf, Cond.instanceMethod yX1_readingOf, Cond.selects RX1 yX1_readingOf yX1_readingOf, Cond.code yX1_readingOf cX1_readingOf 3 (some .int), Cond.fieldLink RX1 35 "RainCells$Scene" "readings" "[I", Cond.static yX4_with, Cond.initialized RX4, Cond.code yX4_with cX4_with 2 (some .int), Cond.methodLink RX4 176 yX4_with, Cond.methodLink RX4 113 yX3_lookUp]
def wsX4_isDoubted_r2 : List Cond := [Cond.instanceMethod yX3_lookUp, Cond.selects RX3 yX3_lookUp yX3_lookUp, Cond.initialized RX3, Cond.code yX3_lookUp cX3_lookUp 4 (some (.object "RainCells$Cells")), Cond.fieldLink RX3 17 "RainCells$Store" "size" "I", Cond.fieldLink RX3 11 "RainCells$Store" "cells" "[LRainCells$Cells;", Cond.fieldLink RX3 39 "RainCells$Cells" "set" "I", Cond.fieldLink RX3 21 "RainCells$Store" "found" "I", Cond.fieldLink RX3 24 "RainCells$Store" "workedOut" "I", Cond.fieldLink RX3 35 "RainCells$Store" "lefts" "[I", Cond.methodLink RX3 42 yX3_putLast, Cond.instanceMethod yX3_putLast, Cond.selects RX3 yX3_putLast yX3_putLast, Cond.code yX3_putLast cX3_putLast 4 (some (.object "RainCells$Cells")), Cond.methodLink RX3 46 yX3_room, Cond.instanceMethod yX3_room, Cond.selects RX3 yX3_room yX3_room, Cond.code yX3_room cX3_room 1 (some (.object "RainCells$Cells")), Cond.fieldLink RX3 27 "RainCells$Store" "replaced" "I", Cond.methodLink RX3 50 yX0_workOut, Cond.instanceMethod yX0_workOut, Cond.selects RX0 yX0_workOut yX0_workOut, Cond.initialized RX0, Cond.code yX0_workOut cX0_workOut 6 none]
def wsX4_isDoubted_r3 : List Cond := [Cond.fieldLink RX0 9 "RainCells$Cells" "set" "I", Cond.fieldLink RX0 15 "RainCells$Cells" "owners" "[I", Cond.constant RX0 25 (1000000000), Cond.fieldLink RX0 26 "RainCells$Scene" "gauges" "I", Cond.fieldLink RX0 19 "RainCells$Cells" "plots" "[I", Cond.fieldLink RX0 22 "RainCells$Cells" "fars" "[I", Cond.fieldLink RX0 39 "RainCells$Scene" "reaches" "[I", Cond.static yX4_isIn, Cond.code yX4_isIn cX4_isIn 2 (some .boolean), Cond.methodLink RX0 35 yX0_claim, Cond.instanceMethod yX0_claim, Cond.selects RX0 yX0_claim yX0_claim, Cond.code yX0_claim cX0_claim 13 none, Cond.fieldLink RX0 42 "RainCells$Scene" "placeX" "[I", Cond.fieldLink RX0 45 "RainCells$Scene" "placeY" "[I", Cond.fieldLink RX0 48 "RainCells$Scene" "rowTo" "[I", Cond.fieldLink RX0 51 "RainCells$Scene" "rowFrom" "[I", Cond.methodLink RX4 173 yX4_without, Cond.static yX4_without, Cond.code yX4_without cX4_without 2 (some .int), Cond.methodLink RX4 97 yX1_readingOf, Cond.methodLink RX4 183 yX4_rainOfOthers, Cond.instanceMethod yX4_rainOfOthers, Cond.selects RX4 yX4_rainOfOthers yX4_rainOfOthers]
def wsX4_isDoubted_r4 : List Cond := [Cond.code yX4_rainOfOthers cX4_rainOfOthers 8 (some .int), Cond.fieldLink RX4 227 "RainCells$Cells" "owners" "[I"]
def wsX4_isDoubted : List Cond := .code yX4_isDoubted cX4_isDoubted 9 (some .boolean) :: ((wsX4_isDoubted_r1 ++ (wsX4_isDoubted_r2 ++ (wsX4_isDoubted_r3 ++ wsX4_isDoubted_r4))) ++ wsX40 ++ wsX00 ++ wsX10 ++ wsX30)
def wsX4_doubt_r1 : List Cond := [Cond.fieldLink RX4 12 "RainCells" "scene" "LRainCells$Scene;", Cond.fieldLink RX4 63 "RainCells$Scene" "gauges" "I", Cond.methodLink RX4 94 yX4_isDay, Cond.static yX4_isDay, Cond.initialized RX4, Cond.code yX4_isDay cX4_isDay 1 (some .boolean), Cond.methodLink RX4 107 yX1_workingOn, Cond.instanceMethod yX1_workingOn, Cond.selects RX1 yX1_workingOn yX1_workingOn, Cond.initialized RX1, Cond.code yX1_workingOn cX1_workingOn 5 (some .int), Cond.fieldLink RX1 18 "RainCells$Scene" "gauges" "I", Cond.fieldLink RX1 31 "RainCells$Scene" "out" "[J", Cond.methodLink RX1 56 yX1_readingOf, Cond.instanceMethod yX1_readingOf, Cond.selects RX1 yX1_readingOf yX1_readingOf, Cond.code yX1_readingOf cX1_readingOf 3 (some .int), Cond.fieldLink RX1 35 "RainCells$Scene" "readings" "[I", Cond.static yX4_with, Cond.code yX4_with cX4_with 2 (some .int), Cond.methodLink RX4 187 yX4_isIn, Cond.static yX4_isIn, Cond.code yX4_isIn cX4_isIn 2 (some .boolean), Cond.methodLink RX4 173 yX4_without]
def wsX4_doubt_r2 : List Cond := [Cond.static yX4_without, Cond.code yX4_without cX4_without 2 (some .int), Cond.methodLink RX4 190 yX4_isDoubted, Cond.instanceMethod yX4_isDoubted, Cond.selects RX4 yX4_isDoubted yX4_isDoubted, Cond.code yX4_isDoubted cX4_isDoubted 9 (some .boolean), Cond.fieldLink RX4 27 "RainCells" "store" "LRainCells$Store;", Cond.fieldLink RX4 126 "RainCells$Cells" "plots" "[I", Cond.methodLink RX4 230 Lib.Math.abs.name, Cond.static Lib.Math.abs.name, Cond.initialized "java/lang/Math", Cond.code Lib.Math.abs.name Lib.Math.abs.code 1 (some .int), Cond.methodLink RX4 176 yX4_with, Cond.methodLink RX4 113 yX3_lookUp, Cond.instanceMethod yX3_lookUp, Cond.selects RX3 yX3_lookUp yX3_lookUp, Cond.initialized RX3, Cond.code yX3_lookUp cX3_lookUp 4 (some (.object "RainCells$Cells")), Cond.fieldLink RX3 17 "RainCells$Store" "size" "I", Cond.fieldLink RX3 11 "RainCells$Store" "cells" "[LRainCells$Cells;", Cond.fieldLink RX3 39 "RainCells$Cells" "set" "I", Cond.fieldLink RX3 21 "RainCells$Store" "found" "I", Cond.fieldLink RX3 24 "RainCells$Store" "workedOut" "I", Cond.fieldLink RX3 35 "RainCells$Store" "lefts" "[I"]
def wsX4_doubt_r3 : List Cond := [Cond.methodLink RX3 42 yX3_putLast, Cond.instanceMethod yX3_putLast, Cond.selects RX3 yX3_putLast yX3_putLast, Cond.code yX3_putLast cX3_putLast 4 (some (.object "RainCells$Cells")), Cond.methodLink RX3 46 yX3_room, Cond.instanceMethod yX3_room, Cond.selects RX3 yX3_room yX3_room, Cond.code yX3_room cX3_room 1 (some (.object "RainCells$Cells")), Cond.fieldLink RX3 27 "RainCells$Store" "replaced" "I", Cond.methodLink RX3 50 yX0_workOut, Cond.instanceMethod yX0_workOut, Cond.selects RX0 yX0_workOut yX0_workOut, Cond.initialized RX0, Cond.code yX0_workOut cX0_workOut 6 none, Cond.fieldLink RX0 9 "RainCells$Cells" "set" "I", Cond.fieldLink RX0 15 "RainCells$Cells" "owners" "[I", Cond.constant RX0 25 (1000000000), Cond.fieldLink RX0 26 "RainCells$Scene" "gauges" "I", Cond.fieldLink RX0 19 "RainCells$Cells" "plots" "[I", Cond.fieldLink RX0 22 "RainCells$Cells" "fars" "[I", Cond.fieldLink RX0 39 "RainCells$Scene" "reaches" "[I", Cond.methodLink RX0 35 yX0_claim, Cond.instanceMethod yX0_claim, Cond.selects RX0 yX0_claim yX0_claim]
def wsX4_doubt_r4 : List Cond := [Cond.code yX0_claim cX0_claim 13 none, Cond.fieldLink RX0 42 "RainCells$Scene" "placeX" "[I", Cond.fieldLink RX0 45 "RainCells$Scene" "placeY" "[I", Cond.fieldLink RX0 48 "RainCells$Scene" "rowTo" "[I", Cond.fieldLink RX0 51 "RainCells$Scene" "rowFrom" "[I", Cond.methodLink RX4 97 yX1_readingOf, Cond.methodLink RX4 183 yX4_rainOfOthers, Cond.instanceMethod yX4_rainOfOthers, Cond.selects RX4 yX4_rainOfOthers yX4_rainOfOthers, Cond.code yX4_rainOfOthers cX4_rainOfOthers 8 (some .int), Cond.fieldLink RX4 227 "RainCells$Cells" "owners" "[I"]
def wsX4_doubt : List Cond := .code yX4_doubt cX4_doubt 6 (some .int) :: ((wsX4_doubt_r1 ++ (wsX4_doubt_r2 ++ (wsX4_doubt_r3 ++ wsX4_doubt_r4))) ++ wsX40 ++ wsX10 ++ wsX00 ++ wsX30)
def wsX4_kept : List Cond := .code yX4_kept cX4_kept 2 (some .int) :: ([.fieldLink RX4 27 "RainCells" "store" "LRainCells$Store;", .fieldLink RX4 194 "RainCells$Store" "size" "I", .fieldLink RX4 197 "RainCells$Store" "cells" "[LRainCells$Cells;", .fieldLink RX4 201 "RainCells$Cells" "set" "I"] ++ wsX40 ++ wsX30 ++ wsX00)
def wsX4_image : List Cond := .code yX4_image cX4_image 2 (some .int) :: ([.fieldLink RX4 16 "RainCells" "images" "[LRainCells$Scene;", .fieldLink RX4 12 "RainCells" "scene" "LRainCells$Scene;", .fieldLink RX4 20 "RainCells" "imagesKept" "I", .methodLink RX4 204 yX1_copyFrom, .instanceMethod yX1_copyFrom, .selects RX1 yX1_copyFrom yX1_copyFrom, .initialized RX1, .code yX1_copyFrom cX1_copyFrom 2 none, .fieldLink RX1 9 "RainCells$Scene" "rowFrom" "[I", .methodLink RX1 38 arraycopyName, .native arraycopyName, .static arraycopyName, .initialized "java/lang/System", .fieldLink RX1 15 "RainCells$Scene" "rowTo" "[I", .fieldLink RX1 18 "RainCells$Scene" "gauges" "I", .fieldLink RX1 22 "RainCells$Scene" "placeX" "[I", .fieldLink RX1 25 "RainCells$Scene" "placeY" "[I", .fieldLink RX1 28 "RainCells$Scene" "reaches" "[I", .fieldLink RX1 31 "RainCells$Scene" "out" "[J", .fieldLink RX1 35 "RainCells$Scene" "readings" "[I", .methodLink RX4 176 yX4_with, .static yX4_with, .initialized RX4, .code yX4_with cX4_with 2 (some .int)] ++ wsX40 ++ wsX10)
def wsX4_restore_r1 : List Cond := [Cond.fieldLink RX4 20 "RainCells" "imagesKept" "I", Cond.fieldLink RX4 12 "RainCells" "scene" "LRainCells$Scene;", Cond.fieldLink RX4 16 "RainCells" "images" "[LRainCells$Scene;", Cond.fieldLink RX4 27 "RainCells" "store" "LRainCells$Store;", Cond.methodLink RX4 187 yX4_isIn, Cond.static yX4_isIn, Cond.initialized RX4, Cond.code yX4_isIn cX4_isIn 2 (some .boolean), Cond.methodLink RX4 204 yX1_copyFrom, Cond.instanceMethod yX1_copyFrom, Cond.selects RX1 yX1_copyFrom yX1_copyFrom, Cond.initialized RX1, Cond.code yX1_copyFrom cX1_copyFrom 2 none, Cond.fieldLink RX1 9 "RainCells$Scene" "rowFrom" "[I", Cond.methodLink RX1 38 arraycopyName, Cond.native arraycopyName, Cond.static arraycopyName, Cond.initialized "java/lang/System", Cond.fieldLink RX1 15 "RainCells$Scene" "rowTo" "[I", Cond.fieldLink RX1 18 "RainCells$Scene" "gauges" "I", Cond.fieldLink RX1 22 "RainCells$Scene" "placeX" "[I", Cond.fieldLink RX1 25 "RainCells$Scene" "placeY" "[I", Cond.fieldLink RX1 28 "RainCells$Scene" "reaches" "[I", Cond.fieldLink RX1 31 "RainCells$Scene" "out" "[J"]
def wsX4_restore_r2 : List Cond := [Cond.fieldLink RX1 35 "RainCells$Scene" "readings" "[I", Cond.methodLink RX4 49 yX3_letAllGo, Cond.instanceMethod yX3_letAllGo, Cond.selects RX3 yX3_letAllGo yX3_letAllGo, Cond.initialized RX3, Cond.code yX3_letAllGo cX3_letAllGo 1 none, Cond.fieldLink RX3 17 "RainCells$Store" "size" "I"]
def wsX4_restore : List Cond := .code yX4_restore cX4_restore 2 (some .int) :: ((wsX4_restore_r1 ++ wsX4_restore_r2) ++ wsX40 ++ wsX10 ++ wsX30)
def wsX4_count : List Cond := .code yX4_count cX4_count 3 (some .int) :: ([.fieldLink RX4 12 "RainCells" "scene" "LRainCells$Scene;", .fieldLink RX4 42 "RainCells$Scene" "rowFrom" "[I", .fieldLink RX4 46 "RainCells$Scene" "rowTo" "[I", .fieldLink RX4 63 "RainCells$Scene" "gauges" "I", .fieldLink RX4 27 "RainCells" "store" "LRainCells$Store;", .fieldLink RX4 194 "RainCells$Store" "size" "I", .fieldLink RX4 211 "RainCells$Store" "found" "I", .fieldLink RX4 214 "RainCells$Store" "workedOut" "I", .fieldLink RX4 217 "RainCells$Store" "replaced" "I", .fieldLink RX4 20 "RainCells" "imagesKept" "I", .methodLink RX4 208 yX1_rowHasPlots, .instanceMethod yX1_rowHasPlots, .selects RX1 yX1_rowHasPlots yX1_rowHasPlots, .initialized RX1, .code yX1_rowHasPlots cX1_rowHasPlots 2 (some .boolean), .fieldLink RX1 9 "RainCells$Scene" "rowFrom" "[I", .fieldLink RX1 15 "RainCells$Scene" "rowTo" "[I", .methodLink RX4 52 yX1_plotCount, .instanceMethod yX1_plotCount, .selects RX1 yX1_plotCount yX1_plotCount, .code yX1_plotCount cX1_plotCount 3 (some .int), .methodLink RX1 44 yX1_rowHasPlots] ++ wsX40 ++ wsX10 ++ wsX30)
def wsX5_init : List Cond := .code yX5_init cX5_init 2 none :: ([.methodLink RX5 1 objectInit, .instanceMethod objectInit, .code objectInit ⟨#[0xb1]⟩ 1 none, .arrayClass .int, .fieldLink RX5 7 "RainCellsModel" "from" "[I", .fieldLink RX5 13 "RainCellsModel" "to" "[I", .fieldLink RX5 16 "RainCellsModel" "px" "[I", .fieldLink RX5 19 "RainCellsModel" "py" "[I", .fieldLink RX5 22 "RainCellsModel" "reach" "[I", .arrayClass .boolean, .fieldLink RX5 25 "RainCellsModel" "isOut" "[Z", .fieldLink RX5 29 "RainCellsModel" "readings" "[I", .fieldLink RX5 32 "RainCellsModel" "sets" "[I", .fieldLink RX5 35 "RainCellsModel" "isKept" "[Z", .fieldLink RX5 38 "RainCellsModel" "imageRows" "[I", .fieldLink RX5 41 "RainCellsModel" "imageMany" "[I", .fieldLink RX5 44 "RainCellsModel" "imageGauges" "[I", .fieldLink RX5 47 "RainCellsModel" "imageOut" "[Z", .fieldLink RX5 50 "RainCellsModel" "imageReadings" "[I"] ++ wsX50)
def wsX5_in : List Cond := .code yX5_in cX5_in 3 (some .boolean) :: ([])
def wsX5_square : List Cond := .code yX5_square cX5_square 1 (some .int) :: ([])
def wsX5_isGauge : List Cond := .code yX5_isGauge cX5_isGauge 2 (some .boolean) :: ([.fieldLink RX5 53 "RainCellsModel" "many" "I", .methodLink RX5 57 yX5_in, .static yX5_in, .initialized RX5, .code yX5_in cX5_in 3 (some .boolean)] ++ wsX50)
def wsX5_isDay : List Cond := .code yX5_isDay cX5_isDay 1 (some .boolean) :: ([.methodLink RX5 57 yX5_in, .static yX5_in, .initialized RX5, .code yX5_in cX5_in 3 (some .boolean)])
def wsX5_isPlot : List Cond := .code yX5_isPlot cX5_isPlot 3 (some .boolean) :: ([.fieldLink RX5 7 "RainCellsModel" "from" "[I", .fieldLink RX5 13 "RainCellsModel" "to" "[I", .methodLink RX5 57 yX5_in, .static yX5_in, .initialized RX5, .code yX5_in cX5_in 3 (some .boolean)] ++ wsX50)
def wsX5_plots : List Cond := .code yX5_plots cX5_plots 3 (some .int) :: ([.fieldLink RX5 7 "RainCellsModel" "from" "[I", .fieldLink RX5 13 "RainCellsModel" "to" "[I"] ++ wsX50)
def wsX5_has : List Cond := .code yX5_has cX5_has 2 (some .boolean) :: ([])
def wsX5_row : List Cond := .code yX5_row cX5_row 4 (some .int) :: ([.fieldLink RX5 7 "RainCellsModel" "from" "[I", .fieldLink RX5 13 "RainCellsModel" "to" "[I", .fieldLink RX5 61 "RainCellsModel" "kept" "I", .methodLink RX5 57 yX5_in, .static yX5_in, .initialized RX5, .code yX5_in cX5_in 3 (some .boolean), .methodLink RX5 64 yX5_plots, .instanceMethod yX5_plots, .selects RX5 yX5_plots yX5_plots, .code yX5_plots cX5_plots 3 (some .int)] ++ wsX50)
def wsX5_isPlace : List Cond := .code yX5_isPlace cX5_isPlace 2 (some .boolean) :: ([.methodLink RX5 57 yX5_in, .static yX5_in, .initialized RX5, .code yX5_in cX5_in 3 (some .boolean)])
def wsX5_gaugeAt : List Cond := .code yX5_gaugeAt cX5_gaugeAt 5 (some .int) :: ([.fieldLink RX5 53 "RainCellsModel" "many" "I", .fieldLink RX5 16 "RainCellsModel" "px" "[I", .fieldLink RX5 19 "RainCellsModel" "py" "[I"] ++ wsX50)
def wsX5_gauge : List Cond := .code yX5_gauge cX5_gauge 4 (some .int) :: ([.fieldLink RX5 53 "RainCellsModel" "many" "I", .fieldLink RX5 16 "RainCellsModel" "px" "[I", .fieldLink RX5 19 "RainCellsModel" "py" "[I", .fieldLink RX5 22 "RainCellsModel" "reach" "[I", .fieldLink RX5 25 "RainCellsModel" "isOut" "[Z", .fieldLink RX5 29 "RainCellsModel" "readings" "[I", .fieldLink RX5 61 "RainCellsModel" "kept" "I", .methodLink RX5 68 yX5_isPlace, .static yX5_isPlace, .initialized RX5, .code yX5_isPlace cX5_isPlace 2 (some .boolean), .methodLink RX5 57 yX5_in, .static yX5_in, .code yX5_in cX5_in 3 (some .boolean), .methodLink RX5 72 yX5_gaugeAt, .instanceMethod yX5_gaugeAt, .selects RX5 yX5_gaugeAt yX5_gaugeAt, .code yX5_gaugeAt cX5_gaugeAt 5 (some .int)] ++ wsX50)
def wsX5_move : List Cond := .code yX5_move cX5_move 6 (some .int) :: ([.fieldLink RX5 16 "RainCellsModel" "px" "[I", .fieldLink RX5 19 "RainCellsModel" "py" "[I", .fieldLink RX5 61 "RainCellsModel" "kept" "I", .methodLink RX5 76 yX5_isGauge, .instanceMethod yX5_isGauge, .selects RX5 yX5_isGauge yX5_isGauge, .initialized RX5, .code yX5_isGauge cX5_isGauge 2 (some .boolean), .fieldLink RX5 53 "RainCellsModel" "many" "I", .methodLink RX5 57 yX5_in, .static yX5_in, .code yX5_in cX5_in 3 (some .boolean), .methodLink RX5 68 yX5_isPlace, .static yX5_isPlace, .code yX5_isPlace cX5_isPlace 2 (some .boolean), .methodLink RX5 72 yX5_gaugeAt, .instanceMethod yX5_gaugeAt, .selects RX5 yX5_gaugeAt yX5_gaugeAt, .code yX5_gaugeAt cX5_gaugeAt 5 (some .int), .methodLink RX5 80 yX5_square, .static yX5_square, .code yX5_square cX5_square 1 (some .int)] ++ wsX50)
def wsX5_reach : List Cond := .code yX5_reach cX5_reach 4 (some .int) :: ([.fieldLink RX5 22 "RainCellsModel" "reach" "[I", .fieldLink RX5 61 "RainCellsModel" "kept" "I", .methodLink RX5 76 yX5_isGauge, .instanceMethod yX5_isGauge, .selects RX5 yX5_isGauge yX5_isGauge, .initialized RX5, .code yX5_isGauge cX5_isGauge 2 (some .boolean), .fieldLink RX5 53 "RainCellsModel" "many" "I", .methodLink RX5 57 yX5_in, .static yX5_in, .code yX5_in cX5_in 3 (some .boolean)] ++ wsX50)
def wsX5_daysOut : List Cond := .code yX5_daysOut cX5_daysOut 4 (some .int) :: ([.fieldLink RX5 25 "RainCellsModel" "isOut" "[Z"] ++ wsX50)
def wsX5_fail : List Cond := .code yX5_fail cX5_fail 6 (some .int) :: ([.fieldLink RX5 25 "RainCellsModel" "isOut" "[Z", .methodLink RX5 76 yX5_isGauge, .instanceMethod yX5_isGauge, .selects RX5 yX5_isGauge yX5_isGauge, .initialized RX5, .code yX5_isGauge cX5_isGauge 2 (some .boolean), .fieldLink RX5 53 "RainCellsModel" "many" "I", .methodLink RX5 57 yX5_in, .static yX5_in, .code yX5_in cX5_in 3 (some .boolean), .methodLink RX5 84 yX5_isDay, .static yX5_isDay, .code yX5_isDay cX5_isDay 1 (some .boolean), .methodLink RX5 87 yX5_daysOut, .instanceMethod yX5_daysOut, .selects RX5 yX5_daysOut yX5_daysOut, .code yX5_daysOut cX5_daysOut 4 (some .int)] ++ wsX50)
def wsX5_rain : List Cond := .code yX5_rain cX5_rain 5 (some .int) :: ([.fieldLink RX5 29 "RainCellsModel" "readings" "[I", .methodLink RX5 76 yX5_isGauge, .instanceMethod yX5_isGauge, .selects RX5 yX5_isGauge yX5_isGauge, .initialized RX5, .code yX5_isGauge cX5_isGauge 2 (some .boolean), .fieldLink RX5 53 "RainCellsModel" "many" "I", .methodLink RX5 57 yX5_in, .static yX5_in, .code yX5_in cX5_in 3 (some .boolean), .methodLink RX5 84 yX5_isDay, .static yX5_isDay, .code yX5_isDay cX5_isDay 1 (some .boolean)] ++ wsX50)
def wsX5_daysRead : List Cond := .code yX5_daysRead cX5_daysRead 4 (some .int) :: ([.fieldLink RX5 29 "RainCellsModel" "readings" "[I"] ++ wsX50)
def wsX5_of : List Cond := .code yX5_of cX5_of 3 (some .int) :: ([.fieldLink RX5 16 "RainCellsModel" "px" "[I", .fieldLink RX5 19 "RainCellsModel" "py" "[I", .fieldLink RX5 22 "RainCellsModel" "reach" "[I", .methodLink RX5 76 yX5_isGauge, .instanceMethod yX5_isGauge, .selects RX5 yX5_isGauge yX5_isGauge, .initialized RX5, .code yX5_isGauge cX5_isGauge 2 (some .boolean), .fieldLink RX5 53 "RainCellsModel" "many" "I", .methodLink RX5 57 yX5_in, .static yX5_in, .code yX5_in cX5_in 3 (some .boolean), .methodLink RX5 87 yX5_daysOut, .instanceMethod yX5_daysOut, .selects RX5 yX5_daysOut yX5_daysOut, .code yX5_daysOut cX5_daysOut 4 (some .int), .fieldLink RX5 25 "RainCellsModel" "isOut" "[Z", .methodLink RX5 90 yX5_daysRead, .instanceMethod yX5_daysRead, .selects RX5 yX5_daysRead yX5_daysRead, .code yX5_daysRead cX5_daysRead 4 (some .int), .fieldLink RX5 29 "RainCellsModel" "readings" "[I"] ++ wsX50)
def wsX5_reading : List Cond := .code yX5_reading cX5_reading 3 (some .int) :: ([.fieldLink RX5 29 "RainCellsModel" "readings" "[I", .methodLink RX5 76 yX5_isGauge, .instanceMethod yX5_isGauge, .selects RX5 yX5_isGauge yX5_isGauge, .initialized RX5, .code yX5_isGauge cX5_isGauge 2 (some .boolean), .fieldLink RX5 53 "RainCellsModel" "many" "I", .methodLink RX5 57 yX5_in, .static yX5_in, .code yX5_in cX5_in 3 (some .boolean), .methodLink RX5 84 yX5_isDay, .static yX5_isDay, .code yX5_isDay cX5_isDay 1 (some .boolean)] ++ wsX50)
def wsX5_workingOn : List Cond := .code yX5_workingOn cX5_workingOn 4 (some .int) :: ([.fieldLink RX5 53 "RainCellsModel" "many" "I", .fieldLink RX5 25 "RainCellsModel" "isOut" "[Z", .fieldLink RX5 29 "RainCellsModel" "readings" "[I"] ++ wsX50)
def wsX5_working : List Cond := .code yX5_working cX5_working 2 (some .int) :: ([.methodLink RX5 84 yX5_isDay, .static yX5_isDay, .initialized RX5, .code yX5_isDay cX5_isDay 1 (some .boolean), .methodLink RX5 57 yX5_in, .static yX5_in, .code yX5_in cX5_in 3 (some .boolean), .methodLink RX5 93 yX5_workingOn, .instanceMethod yX5_workingOn, .selects RX5 yX5_workingOn yX5_workingOn, .code yX5_workingOn cX5_workingOn 4 (some .int), .fieldLink RX5 53 "RainCellsModel" "many" "I", .fieldLink RX5 25 "RainCellsModel" "isOut" "[Z", .fieldLink RX5 29 "RainCellsModel" "readings" "[I"] ++ wsX50)
def wsX5_far : List Cond := .code yX5_far cX5_far 4 (some .int) :: ([.fieldLink RX5 16 "RainCellsModel" "px" "[I", .fieldLink RX5 19 "RainCellsModel" "py" "[I", .methodLink RX5 80 yX5_square, .static yX5_square, .initialized RX5, .code yX5_square cX5_square 1 (some .int)] ++ wsX50)
def wsX5_ownerOf : List Cond := .code yX5_ownerOf cX5_ownerOf 8 (some .int) :: ([.fieldLink RX5 53 "RainCellsModel" "many" "I", .fieldLink RX5 22 "RainCellsModel" "reach" "[I", .methodLink RX5 96 yX5_far, .instanceMethod yX5_far, .selects RX5 yX5_far yX5_far, .initialized RX5, .code yX5_far cX5_far 4 (some .int), .fieldLink RX5 16 "RainCellsModel" "px" "[I", .fieldLink RX5 19 "RainCellsModel" "py" "[I", .methodLink RX5 80 yX5_square, .static yX5_square, .code yX5_square cX5_square 1 (some .int), .methodLink RX5 100 yX5_has, .static yX5_has, .code yX5_has cX5_has 2 (some .boolean)] ++ wsX50)
def wsX5_lookUp : List Cond := .code yX5_lookUp cX5_lookUp 5 none :: ([.fieldLink RX5 61 "RainCellsModel" "kept" "I", .fieldLink RX5 32 "RainCellsModel" "sets" "[I", .fieldLink RX5 103 "RainCellsModel" "found" "I", .fieldLink RX5 106 "RainCellsModel" "worked" "I", .fieldLink RX5 109 "RainCellsModel" "gone" "I"] ++ wsX50)
def wsX5_owner_r1 : List Cond := [Cond.methodLink RX5 84 yX5_isDay, Cond.static yX5_isDay, Cond.initialized RX5, Cond.code yX5_isDay cX5_isDay 1 (some .boolean), Cond.methodLink RX5 57 yX5_in, Cond.static yX5_in, Cond.code yX5_in cX5_in 3 (some .boolean), Cond.methodLink RX5 112 yX5_isPlot, Cond.instanceMethod yX5_isPlot, Cond.selects RX5 yX5_isPlot yX5_isPlot, Cond.code yX5_isPlot cX5_isPlot 3 (some .boolean), Cond.fieldLink RX5 7 "RainCellsModel" "from" "[I", Cond.fieldLink RX5 13 "RainCellsModel" "to" "[I", Cond.methodLink RX5 93 yX5_workingOn, Cond.instanceMethod yX5_workingOn, Cond.selects RX5 yX5_workingOn yX5_workingOn, Cond.code yX5_workingOn cX5_workingOn 4 (some .int), Cond.fieldLink RX5 53 "RainCellsModel" "many" "I", Cond.fieldLink RX5 25 "RainCellsModel" "isOut" "[Z", Cond.fieldLink RX5 29 "RainCellsModel" "readings" "[I", Cond.methodLink RX5 115 yX5_lookUp, Cond.instanceMethod yX5_lookUp, Cond.selects RX5 yX5_lookUp yX5_lookUp, Cond.code yX5_lookUp cX5_lookUp 5 none]
def wsX5_owner_r2 : List Cond := [Cond.fieldLink RX5 61 "RainCellsModel" "kept" "I", Cond.fieldLink RX5 32 "RainCellsModel" "sets" "[I", Cond.fieldLink RX5 103 "RainCellsModel" "found" "I", Cond.fieldLink RX5 106 "RainCellsModel" "worked" "I", Cond.fieldLink RX5 109 "RainCellsModel" "gone" "I", Cond.methodLink RX5 119 yX5_ownerOf, Cond.instanceMethod yX5_ownerOf, Cond.selects RX5 yX5_ownerOf yX5_ownerOf, Cond.code yX5_ownerOf cX5_ownerOf 8 (some .int), Cond.fieldLink RX5 22 "RainCellsModel" "reach" "[I", Cond.methodLink RX5 96 yX5_far, Cond.instanceMethod yX5_far, Cond.selects RX5 yX5_far yX5_far, Cond.code yX5_far cX5_far 4 (some .int), Cond.fieldLink RX5 16 "RainCellsModel" "px" "[I", Cond.fieldLink RX5 19 "RainCellsModel" "py" "[I", Cond.methodLink RX5 80 yX5_square, Cond.static yX5_square, Cond.code yX5_square cX5_square 1 (some .int), Cond.methodLink RX5 100 yX5_has, Cond.static yX5_has, Cond.code yX5_has cX5_has 2 (some .boolean)]
def wsX5_owner : List Cond := .code yX5_owner cX5_owner 5 (some .int) :: ((wsX5_owner_r1 ++ wsX5_owner_r2) ++ wsX50)
def wsX5_size_r1 : List Cond := [Cond.methodLink RX5 112 yX5_isPlot, Cond.instanceMethod yX5_isPlot, Cond.selects RX5 yX5_isPlot yX5_isPlot, Cond.initialized RX5, Cond.code yX5_isPlot cX5_isPlot 3 (some .boolean), Cond.fieldLink RX5 7 "RainCellsModel" "from" "[I", Cond.fieldLink RX5 13 "RainCellsModel" "to" "[I", Cond.methodLink RX5 57 yX5_in, Cond.static yX5_in, Cond.code yX5_in cX5_in 3 (some .boolean), Cond.methodLink RX5 119 yX5_ownerOf, Cond.instanceMethod yX5_ownerOf, Cond.selects RX5 yX5_ownerOf yX5_ownerOf, Cond.code yX5_ownerOf cX5_ownerOf 8 (some .int), Cond.fieldLink RX5 53 "RainCellsModel" "many" "I", Cond.fieldLink RX5 22 "RainCellsModel" "reach" "[I", Cond.methodLink RX5 96 yX5_far, Cond.instanceMethod yX5_far, Cond.selects RX5 yX5_far yX5_far, Cond.code yX5_far cX5_far 4 (some .int), Cond.fieldLink RX5 16 "RainCellsModel" "px" "[I", Cond.fieldLink RX5 19 "RainCellsModel" "py" "[I", Cond.methodLink RX5 80 yX5_square, Cond.static yX5_square]
def wsX5_size_r2 : List Cond := [Cond.code yX5_square cX5_square 1 (some .int), Cond.methodLink RX5 100 yX5_has, Cond.static yX5_has, Cond.code yX5_has cX5_has 2 (some .boolean)]
def wsX5_size : List Cond := .code yX5_size cX5_size 5 (some .int) :: ((wsX5_size_r1 ++ wsX5_size_r2) ++ wsX50)
def wsX5_common : List Cond := .code yX5_common cX5_common 6 (some .int) :: ([])
def wsX5_part : List Cond := .code yX5_part cX5_part 4 (some .int) :: ([.methodLink RX5 122 yX5_common, .static yX5_common, .initialized RX5, .code yX5_common cX5_common 6 (some .int)])
def wsX5_farOf_r1 : List Cond := [Cond.methodLink RX5 112 yX5_isPlot, Cond.instanceMethod yX5_isPlot, Cond.selects RX5 yX5_isPlot yX5_isPlot, Cond.initialized RX5, Cond.code yX5_isPlot cX5_isPlot 3 (some .boolean), Cond.fieldLink RX5 7 "RainCellsModel" "from" "[I", Cond.fieldLink RX5 13 "RainCellsModel" "to" "[I", Cond.methodLink RX5 57 yX5_in, Cond.static yX5_in, Cond.code yX5_in cX5_in 3 (some .boolean), Cond.methodLink RX5 119 yX5_ownerOf, Cond.instanceMethod yX5_ownerOf, Cond.selects RX5 yX5_ownerOf yX5_ownerOf, Cond.code yX5_ownerOf cX5_ownerOf 8 (some .int), Cond.fieldLink RX5 53 "RainCellsModel" "many" "I", Cond.fieldLink RX5 22 "RainCellsModel" "reach" "[I", Cond.methodLink RX5 96 yX5_far, Cond.instanceMethod yX5_far, Cond.selects RX5 yX5_far yX5_far, Cond.code yX5_far cX5_far 4 (some .int), Cond.fieldLink RX5 16 "RainCellsModel" "px" "[I", Cond.fieldLink RX5 19 "RainCellsModel" "py" "[I", Cond.methodLink RX5 80 yX5_square, Cond.static yX5_square]
def wsX5_farOf_r2 : List Cond := [Cond.code yX5_square cX5_square 1 (some .int), Cond.methodLink RX5 100 yX5_has, Cond.static yX5_has, Cond.code yX5_has cX5_has 2 (some .boolean)]
def wsX5_farOf : List Cond := .code yX5_farOf cX5_farOf 5 (some .int) :: ((wsX5_farOf_r1 ++ wsX5_farOf_r2) ++ wsX50)
def wsX5_cell_r1 : List Cond := [Cond.methodLink RX5 76 yX5_isGauge, Cond.instanceMethod yX5_isGauge, Cond.selects RX5 yX5_isGauge yX5_isGauge, Cond.initialized RX5, Cond.code yX5_isGauge cX5_isGauge 2 (some .boolean), Cond.fieldLink RX5 53 "RainCellsModel" "many" "I", Cond.methodLink RX5 57 yX5_in, Cond.static yX5_in, Cond.code yX5_in cX5_in 3 (some .boolean), Cond.methodLink RX5 84 yX5_isDay, Cond.static yX5_isDay, Cond.code yX5_isDay cX5_isDay 1 (some .boolean), Cond.methodLink RX5 93 yX5_workingOn, Cond.instanceMethod yX5_workingOn, Cond.selects RX5 yX5_workingOn yX5_workingOn, Cond.code yX5_workingOn cX5_workingOn 4 (some .int), Cond.fieldLink RX5 25 "RainCellsModel" "isOut" "[Z", Cond.fieldLink RX5 29 "RainCellsModel" "readings" "[I", Cond.methodLink RX5 115 yX5_lookUp, Cond.instanceMethod yX5_lookUp, Cond.selects RX5 yX5_lookUp yX5_lookUp, Cond.code yX5_lookUp cX5_lookUp 5 none, Cond.fieldLink RX5 61 "RainCellsModel" "kept" "I", Cond.fieldLink RX5 32 "RainCellsModel" "sets" "[I"]
def wsX5_cell_r2 : List Cond := [Cond.fieldLink RX5 103 "RainCellsModel" "found" "I", Cond.fieldLink RX5 106 "RainCellsModel" "worked" "I", Cond.fieldLink RX5 109 "RainCellsModel" "gone" "I", Cond.methodLink RX5 125 yX5_size, Cond.instanceMethod yX5_size, Cond.selects RX5 yX5_size yX5_size, Cond.code yX5_size cX5_size 5 (some .int), Cond.methodLink RX5 112 yX5_isPlot, Cond.instanceMethod yX5_isPlot, Cond.selects RX5 yX5_isPlot yX5_isPlot, Cond.code yX5_isPlot cX5_isPlot 3 (some .boolean), Cond.fieldLink RX5 7 "RainCellsModel" "from" "[I", Cond.fieldLink RX5 13 "RainCellsModel" "to" "[I", Cond.methodLink RX5 119 yX5_ownerOf, Cond.instanceMethod yX5_ownerOf, Cond.selects RX5 yX5_ownerOf yX5_ownerOf, Cond.code yX5_ownerOf cX5_ownerOf 8 (some .int), Cond.fieldLink RX5 22 "RainCellsModel" "reach" "[I", Cond.methodLink RX5 96 yX5_far, Cond.instanceMethod yX5_far, Cond.selects RX5 yX5_far yX5_far, Cond.code yX5_far cX5_far 4 (some .int), Cond.fieldLink RX5 16 "RainCellsModel" "px" "[I", Cond.fieldLink RX5 19 "RainCellsModel" "py" "[I"]
def wsX5_cell_r3 : List Cond := [Cond.methodLink RX5 80 yX5_square, Cond.static yX5_square, Cond.code yX5_square cX5_square 1 (some .int), Cond.methodLink RX5 100 yX5_has, Cond.static yX5_has, Cond.code yX5_has cX5_has 2 (some .boolean), Cond.methodLink RX5 128 yX5_farOf, Cond.instanceMethod yX5_farOf, Cond.selects RX5 yX5_farOf yX5_farOf, Cond.code yX5_farOf cX5_farOf 5 (some .int), Cond.methodLink RX5 64 yX5_plots, Cond.instanceMethod yX5_plots, Cond.selects RX5 yX5_plots yX5_plots, Cond.code yX5_plots cX5_plots 3 (some .int), Cond.methodLink RX5 131 yX5_part, Cond.static yX5_part, Cond.code yX5_part cX5_part 4 (some .int), Cond.methodLink RX5 122 yX5_common, Cond.static yX5_common, Cond.code yX5_common cX5_common 6 (some .int)]
def wsX5_cell : List Cond := .code yX5_cell cX5_cell 6 (some .int) :: ((wsX5_cell_r1 ++ (wsX5_cell_r2 ++ wsX5_cell_r3)) ++ wsX50)
def wsX5_at_r1 : List Cond := [Cond.methodLink RX5 57 yX5_in, Cond.static yX5_in, Cond.initialized RX5, Cond.code yX5_in cX5_in 3 (some .boolean), Cond.methodLink RX5 112 yX5_isPlot, Cond.instanceMethod yX5_isPlot, Cond.selects RX5 yX5_isPlot yX5_isPlot, Cond.code yX5_isPlot cX5_isPlot 3 (some .boolean), Cond.fieldLink RX5 7 "RainCellsModel" "from" "[I", Cond.fieldLink RX5 13 "RainCellsModel" "to" "[I", Cond.methodLink RX5 119 yX5_ownerOf, Cond.instanceMethod yX5_ownerOf, Cond.selects RX5 yX5_ownerOf yX5_ownerOf, Cond.code yX5_ownerOf cX5_ownerOf 8 (some .int), Cond.fieldLink RX5 53 "RainCellsModel" "many" "I", Cond.fieldLink RX5 22 "RainCellsModel" "reach" "[I", Cond.methodLink RX5 96 yX5_far, Cond.instanceMethod yX5_far, Cond.selects RX5 yX5_far yX5_far, Cond.code yX5_far cX5_far 4 (some .int), Cond.fieldLink RX5 16 "RainCellsModel" "px" "[I", Cond.fieldLink RX5 19 "RainCellsModel" "py" "[I", Cond.methodLink RX5 80 yX5_square, Cond.static yX5_square]
def wsX5_at_r2 : List Cond := [Cond.code yX5_square cX5_square 1 (some .int), Cond.methodLink RX5 100 yX5_has, Cond.static yX5_has, Cond.code yX5_has cX5_has 2 (some .boolean)]
def wsX5_at : List Cond := .code yX5_at cX5_at 4 (some .int) :: ((wsX5_at_r1 ++ wsX5_at_r2) ++ wsX50)
def wsX5_touching_r1 : List Cond := [Cond.methodLink RX5 134 yX5_at, Cond.instanceMethod yX5_at, Cond.selects RX5 yX5_at yX5_at, Cond.initialized RX5, Cond.code yX5_at cX5_at 4 (some .int), Cond.methodLink RX5 57 yX5_in, Cond.static yX5_in, Cond.code yX5_in cX5_in 3 (some .boolean), Cond.methodLink RX5 112 yX5_isPlot, Cond.instanceMethod yX5_isPlot, Cond.selects RX5 yX5_isPlot yX5_isPlot, Cond.code yX5_isPlot cX5_isPlot 3 (some .boolean), Cond.fieldLink RX5 7 "RainCellsModel" "from" "[I", Cond.fieldLink RX5 13 "RainCellsModel" "to" "[I", Cond.methodLink RX5 119 yX5_ownerOf, Cond.instanceMethod yX5_ownerOf, Cond.selects RX5 yX5_ownerOf yX5_ownerOf, Cond.code yX5_ownerOf cX5_ownerOf 8 (some .int), Cond.fieldLink RX5 53 "RainCellsModel" "many" "I", Cond.fieldLink RX5 22 "RainCellsModel" "reach" "[I", Cond.methodLink RX5 96 yX5_far, Cond.instanceMethod yX5_far, Cond.selects RX5 yX5_far yX5_far, Cond.code yX5_far cX5_far 4 (some .int)]
def wsX5_touching_r2 : List Cond := [Cond.fieldLink RX5 16 "RainCellsModel" "px" "[I", Cond.fieldLink RX5 19 "RainCellsModel" "py" "[I", Cond.methodLink RX5 80 yX5_square, Cond.static yX5_square, Cond.code yX5_square cX5_square 1 (some .int), Cond.methodLink RX5 100 yX5_has, Cond.static yX5_has, Cond.code yX5_has cX5_has 2 (some .boolean)]
def wsX5_touching : List Cond := .code yX5_touching cX5_touching 5 (some .int) :: ((wsX5_touching_r1 ++ wsX5_touching_r2) ++ wsX50)
def wsX5_sides_r1 : List Cond := [Cond.methodLink RX5 134 yX5_at, Cond.instanceMethod yX5_at, Cond.selects RX5 yX5_at yX5_at, Cond.initialized RX5, Cond.code yX5_at cX5_at 4 (some .int), Cond.methodLink RX5 57 yX5_in, Cond.static yX5_in, Cond.code yX5_in cX5_in 3 (some .boolean), Cond.methodLink RX5 112 yX5_isPlot, Cond.instanceMethod yX5_isPlot, Cond.selects RX5 yX5_isPlot yX5_isPlot, Cond.code yX5_isPlot cX5_isPlot 3 (some .boolean), Cond.fieldLink RX5 7 "RainCellsModel" "from" "[I", Cond.fieldLink RX5 13 "RainCellsModel" "to" "[I", Cond.methodLink RX5 119 yX5_ownerOf, Cond.instanceMethod yX5_ownerOf, Cond.selects RX5 yX5_ownerOf yX5_ownerOf, Cond.code yX5_ownerOf cX5_ownerOf 8 (some .int), Cond.fieldLink RX5 53 "RainCellsModel" "many" "I", Cond.fieldLink RX5 22 "RainCellsModel" "reach" "[I", Cond.methodLink RX5 96 yX5_far, Cond.instanceMethod yX5_far, Cond.selects RX5 yX5_far yX5_far, Cond.code yX5_far cX5_far 4 (some .int)]
def wsX5_sides_r2 : List Cond := [Cond.fieldLink RX5 16 "RainCellsModel" "px" "[I", Cond.fieldLink RX5 19 "RainCellsModel" "py" "[I", Cond.methodLink RX5 80 yX5_square, Cond.static yX5_square, Cond.code yX5_square cX5_square 1 (some .int), Cond.methodLink RX5 100 yX5_has, Cond.static yX5_has, Cond.code yX5_has cX5_has 2 (some .boolean), Cond.methodLink RX5 137 yX5_touching, Cond.instanceMethod yX5_touching, Cond.selects RX5 yX5_touching yX5_touching, Cond.code yX5_touching cX5_touching 5 (some .int)]
def wsX5_sides : List Cond := .code yX5_sides cX5_sides 6 (some .int) :: ((wsX5_sides_r1 ++ wsX5_sides_r2) ++ wsX50)
def wsX5_border_r1 : List Cond := [Cond.methodLink RX5 76 yX5_isGauge, Cond.instanceMethod yX5_isGauge, Cond.selects RX5 yX5_isGauge yX5_isGauge, Cond.initialized RX5, Cond.code yX5_isGauge cX5_isGauge 2 (some .boolean), Cond.fieldLink RX5 53 "RainCellsModel" "many" "I", Cond.methodLink RX5 57 yX5_in, Cond.static yX5_in, Cond.code yX5_in cX5_in 3 (some .boolean), Cond.methodLink RX5 84 yX5_isDay, Cond.static yX5_isDay, Cond.code yX5_isDay cX5_isDay 1 (some .boolean), Cond.methodLink RX5 93 yX5_workingOn, Cond.instanceMethod yX5_workingOn, Cond.selects RX5 yX5_workingOn yX5_workingOn, Cond.code yX5_workingOn cX5_workingOn 4 (some .int), Cond.fieldLink RX5 25 "RainCellsModel" "isOut" "[Z", Cond.fieldLink RX5 29 "RainCellsModel" "readings" "[I", Cond.methodLink RX5 115 yX5_lookUp, Cond.instanceMethod yX5_lookUp, Cond.selects RX5 yX5_lookUp yX5_lookUp, Cond.code yX5_lookUp cX5_lookUp 5 none, Cond.fieldLink RX5 61 "RainCellsModel" "kept" "I", Cond.fieldLink RX5 32 "RainCellsModel" "sets" "[I"]
def wsX5_border_r2 : List Cond := [Cond.fieldLink RX5 103 "RainCellsModel" "found" "I", Cond.fieldLink RX5 106 "RainCellsModel" "worked" "I", Cond.fieldLink RX5 109 "RainCellsModel" "gone" "I", Cond.methodLink RX5 141 yX5_sides, Cond.instanceMethod yX5_sides, Cond.selects RX5 yX5_sides yX5_sides, Cond.code yX5_sides cX5_sides 6 (some .int), Cond.methodLink RX5 134 yX5_at, Cond.instanceMethod yX5_at, Cond.selects RX5 yX5_at yX5_at, Cond.code yX5_at cX5_at 4 (some .int), Cond.methodLink RX5 112 yX5_isPlot, Cond.instanceMethod yX5_isPlot, Cond.selects RX5 yX5_isPlot yX5_isPlot, Cond.code yX5_isPlot cX5_isPlot 3 (some .boolean), Cond.fieldLink RX5 7 "RainCellsModel" "from" "[I", Cond.fieldLink RX5 13 "RainCellsModel" "to" "[I", Cond.methodLink RX5 119 yX5_ownerOf, Cond.instanceMethod yX5_ownerOf, Cond.selects RX5 yX5_ownerOf yX5_ownerOf, Cond.code yX5_ownerOf cX5_ownerOf 8 (some .int), Cond.fieldLink RX5 22 "RainCellsModel" "reach" "[I", Cond.methodLink RX5 96 yX5_far, Cond.instanceMethod yX5_far]
def wsX5_border_r3 : List Cond := [Cond.selects RX5 yX5_far yX5_far, Cond.code yX5_far cX5_far 4 (some .int), Cond.fieldLink RX5 16 "RainCellsModel" "px" "[I", Cond.fieldLink RX5 19 "RainCellsModel" "py" "[I", Cond.methodLink RX5 80 yX5_square, Cond.static yX5_square, Cond.code yX5_square cX5_square 1 (some .int), Cond.methodLink RX5 100 yX5_has, Cond.static yX5_has, Cond.code yX5_has cX5_has 2 (some .boolean), Cond.methodLink RX5 137 yX5_touching, Cond.instanceMethod yX5_touching, Cond.selects RX5 yX5_touching yX5_touching, Cond.code yX5_touching cX5_touching 5 (some .int)]
def wsX5_border : List Cond := .code yX5_border cX5_border 5 (some .int) :: ((wsX5_border_r1 ++ (wsX5_border_r2 ++ wsX5_border_r3)) ++ wsX50)
def wsX5_neighbours_r1 : List Cond := [Cond.fieldLink RX5 53 "RainCellsModel" "many" "I", Cond.methodLink RX5 76 yX5_isGauge, Cond.instanceMethod yX5_isGauge, Cond.selects RX5 yX5_isGauge yX5_isGauge, Cond.initialized RX5, Cond.code yX5_isGauge cX5_isGauge 2 (some .boolean), Cond.methodLink RX5 57 yX5_in, Cond.static yX5_in, Cond.code yX5_in cX5_in 3 (some .boolean), Cond.methodLink RX5 84 yX5_isDay, Cond.static yX5_isDay, Cond.code yX5_isDay cX5_isDay 1 (some .boolean), Cond.methodLink RX5 93 yX5_workingOn, Cond.instanceMethod yX5_workingOn, Cond.selects RX5 yX5_workingOn yX5_workingOn, Cond.code yX5_workingOn cX5_workingOn 4 (some .int), Cond.fieldLink RX5 25 "RainCellsModel" "isOut" "[Z", Cond.fieldLink RX5 29 "RainCellsModel" "readings" "[I", Cond.methodLink RX5 115 yX5_lookUp, Cond.instanceMethod yX5_lookUp, Cond.selects RX5 yX5_lookUp yX5_lookUp, Cond.code yX5_lookUp cX5_lookUp 5 none, Cond.fieldLink RX5 61 "RainCellsModel" "kept" "I", Cond.fieldLink RX5 32 "RainCellsModel" "sets" "[I"]
def wsX5_neighbours_r2 : List Cond := [Cond.fieldLink RX5 103 "RainCellsModel" "found" "I", Cond.fieldLink RX5 106 "RainCellsModel" "worked" "I", Cond.fieldLink RX5 109 "RainCellsModel" "gone" "I", Cond.methodLink RX5 141 yX5_sides, Cond.instanceMethod yX5_sides, Cond.selects RX5 yX5_sides yX5_sides, Cond.code yX5_sides cX5_sides 6 (some .int), Cond.methodLink RX5 134 yX5_at, Cond.instanceMethod yX5_at, Cond.selects RX5 yX5_at yX5_at, Cond.code yX5_at cX5_at 4 (some .int), Cond.methodLink RX5 112 yX5_isPlot, Cond.instanceMethod yX5_isPlot, Cond.selects RX5 yX5_isPlot yX5_isPlot, Cond.code yX5_isPlot cX5_isPlot 3 (some .boolean), Cond.fieldLink RX5 7 "RainCellsModel" "from" "[I", Cond.fieldLink RX5 13 "RainCellsModel" "to" "[I", Cond.methodLink RX5 119 yX5_ownerOf, Cond.instanceMethod yX5_ownerOf, Cond.selects RX5 yX5_ownerOf yX5_ownerOf, Cond.code yX5_ownerOf cX5_ownerOf 8 (some .int), Cond.fieldLink RX5 22 "RainCellsModel" "reach" "[I", Cond.methodLink RX5 96 yX5_far, Cond.instanceMethod yX5_far]
def wsX5_neighbours_r3 : List Cond := [Cond.selects RX5 yX5_far yX5_far, Cond.code yX5_far cX5_far 4 (some .int), Cond.fieldLink RX5 16 "RainCellsModel" "px" "[I", Cond.fieldLink RX5 19 "RainCellsModel" "py" "[I", Cond.methodLink RX5 80 yX5_square, Cond.static yX5_square, Cond.code yX5_square cX5_square 1 (some .int), Cond.methodLink RX5 100 yX5_has, Cond.static yX5_has, Cond.code yX5_has cX5_has 2 (some .boolean), Cond.methodLink RX5 137 yX5_touching, Cond.instanceMethod yX5_touching, Cond.selects RX5 yX5_touching yX5_touching, Cond.code yX5_touching cX5_touching 5 (some .int)]
def wsX5_neighbours : List Cond := .code yX5_neighbours cX5_neighbours 6 (some .int) :: ((wsX5_neighbours_r1 ++ (wsX5_neighbours_r2 ++ wsX5_neighbours_r3)) ++ wsX50)
def wsX5_hasMean : List Cond := .code yX5_hasMean cX5_hasMean 2 (some .boolean) :: ([.methodLink RX5 93 yX5_workingOn, .instanceMethod yX5_workingOn, .selects RX5 yX5_workingOn yX5_workingOn, .initialized RX5, .code yX5_workingOn cX5_workingOn 4 (some .int), .fieldLink RX5 53 "RainCellsModel" "many" "I", .fieldLink RX5 25 "RainCellsModel" "isOut" "[Z", .fieldLink RX5 29 "RainCellsModel" "readings" "[I", .methodLink RX5 64 yX5_plots, .instanceMethod yX5_plots, .selects RX5 yX5_plots yX5_plots, .code yX5_plots cX5_plots 3 (some .int), .fieldLink RX5 7 "RainCellsModel" "from" "[I", .fieldLink RX5 13 "RainCellsModel" "to" "[I"] ++ wsX50)
def wsX5_water_r1 : List Cond := [Cond.fieldLink RX5 53 "RainCellsModel" "many" "I", Cond.fieldLink RX5 29 "RainCellsModel" "readings" "[I", Cond.methodLink RX5 93 yX5_workingOn, Cond.instanceMethod yX5_workingOn, Cond.selects RX5 yX5_workingOn yX5_workingOn, Cond.initialized RX5, Cond.code yX5_workingOn cX5_workingOn 4 (some .int), Cond.fieldLink RX5 25 "RainCellsModel" "isOut" "[Z", Cond.methodLink RX5 100 yX5_has, Cond.static yX5_has, Cond.code yX5_has cX5_has 2 (some .boolean), Cond.methodLink RX5 125 yX5_size, Cond.instanceMethod yX5_size, Cond.selects RX5 yX5_size yX5_size, Cond.code yX5_size cX5_size 5 (some .int), Cond.methodLink RX5 112 yX5_isPlot, Cond.instanceMethod yX5_isPlot, Cond.selects RX5 yX5_isPlot yX5_isPlot, Cond.code yX5_isPlot cX5_isPlot 3 (some .boolean), Cond.fieldLink RX5 7 "RainCellsModel" "from" "[I", Cond.fieldLink RX5 13 "RainCellsModel" "to" "[I", Cond.methodLink RX5 57 yX5_in, Cond.static yX5_in, Cond.code yX5_in cX5_in 3 (some .boolean)]
def wsX5_water_r2 : List Cond := [Cond.methodLink RX5 119 yX5_ownerOf, Cond.instanceMethod yX5_ownerOf, Cond.selects RX5 yX5_ownerOf yX5_ownerOf, Cond.code yX5_ownerOf cX5_ownerOf 8 (some .int), Cond.fieldLink RX5 22 "RainCellsModel" "reach" "[I", Cond.methodLink RX5 96 yX5_far, Cond.instanceMethod yX5_far, Cond.selects RX5 yX5_far yX5_far, Cond.code yX5_far cX5_far 4 (some .int), Cond.fieldLink RX5 16 "RainCellsModel" "px" "[I", Cond.fieldLink RX5 19 "RainCellsModel" "py" "[I", Cond.methodLink RX5 80 yX5_square, Cond.static yX5_square, Cond.code yX5_square cX5_square 1 (some .int)]
def wsX5_water : List Cond := .code yX5_water cX5_water 5 (some .int) :: ((wsX5_water_r1 ++ wsX5_water_r2) ++ wsX50)
def wsX5_mean_r1 : List Cond := [Cond.methodLink RX5 84 yX5_isDay, Cond.static yX5_isDay, Cond.initialized RX5, Cond.code yX5_isDay cX5_isDay 1 (some .boolean), Cond.methodLink RX5 57 yX5_in, Cond.static yX5_in, Cond.code yX5_in cX5_in 3 (some .boolean), Cond.methodLink RX5 144 yX5_hasMean, Cond.instanceMethod yX5_hasMean, Cond.selects RX5 yX5_hasMean yX5_hasMean, Cond.code yX5_hasMean cX5_hasMean 2 (some .boolean), Cond.methodLink RX5 93 yX5_workingOn, Cond.instanceMethod yX5_workingOn, Cond.selects RX5 yX5_workingOn yX5_workingOn, Cond.code yX5_workingOn cX5_workingOn 4 (some .int), Cond.fieldLink RX5 53 "RainCellsModel" "many" "I", Cond.fieldLink RX5 25 "RainCellsModel" "isOut" "[Z", Cond.fieldLink RX5 29 "RainCellsModel" "readings" "[I", Cond.methodLink RX5 64 yX5_plots, Cond.instanceMethod yX5_plots, Cond.selects RX5 yX5_plots yX5_plots, Cond.code yX5_plots cX5_plots 3 (some .int), Cond.fieldLink RX5 7 "RainCellsModel" "from" "[I", Cond.fieldLink RX5 13 "RainCellsModel" "to" "[I"]
def wsX5_mean_r2 : List Cond := [Cond.methodLink RX5 115 yX5_lookUp, Cond.instanceMethod yX5_lookUp, Cond.selects RX5 yX5_lookUp yX5_lookUp, Cond.code yX5_lookUp cX5_lookUp 5 none, Cond.fieldLink RX5 61 "RainCellsModel" "kept" "I", Cond.fieldLink RX5 32 "RainCellsModel" "sets" "[I", Cond.fieldLink RX5 103 "RainCellsModel" "found" "I", Cond.fieldLink RX5 106 "RainCellsModel" "worked" "I", Cond.fieldLink RX5 109 "RainCellsModel" "gone" "I", Cond.methodLink RX5 147 yX5_water, Cond.instanceMethod yX5_water, Cond.selects RX5 yX5_water yX5_water, Cond.code yX5_water cX5_water 5 (some .int), Cond.methodLink RX5 100 yX5_has, Cond.static yX5_has, Cond.code yX5_has cX5_has 2 (some .boolean), Cond.methodLink RX5 125 yX5_size, Cond.instanceMethod yX5_size, Cond.selects RX5 yX5_size yX5_size, Cond.code yX5_size cX5_size 5 (some .int), Cond.methodLink RX5 112 yX5_isPlot, Cond.instanceMethod yX5_isPlot, Cond.selects RX5 yX5_isPlot yX5_isPlot, Cond.code yX5_isPlot cX5_isPlot 3 (some .boolean)]
def wsX5_mean_r3 : List Cond := [Cond.methodLink RX5 119 yX5_ownerOf, Cond.instanceMethod yX5_ownerOf, Cond.selects RX5 yX5_ownerOf yX5_ownerOf, Cond.code yX5_ownerOf cX5_ownerOf 8 (some .int), Cond.fieldLink RX5 22 "RainCellsModel" "reach" "[I", Cond.methodLink RX5 96 yX5_far, Cond.instanceMethod yX5_far, Cond.selects RX5 yX5_far yX5_far, Cond.code yX5_far cX5_far 4 (some .int), Cond.fieldLink RX5 16 "RainCellsModel" "px" "[I", Cond.fieldLink RX5 19 "RainCellsModel" "py" "[I", Cond.methodLink RX5 80 yX5_square, Cond.static yX5_square, Cond.code yX5_square cX5_square 1 (some .int), Cond.methodLink RX5 131 yX5_part, Cond.static yX5_part, Cond.code yX5_part cX5_part 4 (some .int), Cond.methodLink RX5 122 yX5_common, Cond.static yX5_common, Cond.code yX5_common cX5_common 6 (some .int)]
def wsX5_mean : List Cond := .code yX5_mean cX5_mean 3 (some .int) :: ((wsX5_mean_r1 ++ (wsX5_mean_r2 ++ wsX5_mean_r3)) ++ wsX50)
def wsX5_total_r1 : List Cond := [Cond.methodLink RX5 84 yX5_isDay, Cond.static yX5_isDay, Cond.initialized RX5, Cond.code yX5_isDay cX5_isDay 1 (some .boolean), Cond.methodLink RX5 57 yX5_in, Cond.static yX5_in, Cond.code yX5_in cX5_in 3 (some .boolean), Cond.methodLink RX5 144 yX5_hasMean, Cond.instanceMethod yX5_hasMean, Cond.selects RX5 yX5_hasMean yX5_hasMean, Cond.code yX5_hasMean cX5_hasMean 2 (some .boolean), Cond.methodLink RX5 93 yX5_workingOn, Cond.instanceMethod yX5_workingOn, Cond.selects RX5 yX5_workingOn yX5_workingOn, Cond.code yX5_workingOn cX5_workingOn 4 (some .int), Cond.fieldLink RX5 53 "RainCellsModel" "many" "I", Cond.fieldLink RX5 25 "RainCellsModel" "isOut" "[Z", Cond.fieldLink RX5 29 "RainCellsModel" "readings" "[I", Cond.methodLink RX5 64 yX5_plots, Cond.instanceMethod yX5_plots, Cond.selects RX5 yX5_plots yX5_plots, Cond.code yX5_plots cX5_plots 3 (some .int), Cond.fieldLink RX5 7 "RainCellsModel" "from" "[I", Cond.fieldLink RX5 13 "RainCellsModel" "to" "[I"]
def wsX5_total_r2 : List Cond := [Cond.methodLink RX5 115 yX5_lookUp, Cond.instanceMethod yX5_lookUp, Cond.selects RX5 yX5_lookUp yX5_lookUp, Cond.code yX5_lookUp cX5_lookUp 5 none, Cond.fieldLink RX5 61 "RainCellsModel" "kept" "I", Cond.fieldLink RX5 32 "RainCellsModel" "sets" "[I", Cond.fieldLink RX5 103 "RainCellsModel" "found" "I", Cond.fieldLink RX5 106 "RainCellsModel" "worked" "I", Cond.fieldLink RX5 109 "RainCellsModel" "gone" "I", Cond.methodLink RX5 147 yX5_water, Cond.instanceMethod yX5_water, Cond.selects RX5 yX5_water yX5_water, Cond.code yX5_water cX5_water 5 (some .int), Cond.methodLink RX5 100 yX5_has, Cond.static yX5_has, Cond.code yX5_has cX5_has 2 (some .boolean), Cond.methodLink RX5 125 yX5_size, Cond.instanceMethod yX5_size, Cond.selects RX5 yX5_size yX5_size, Cond.code yX5_size cX5_size 5 (some .int), Cond.methodLink RX5 112 yX5_isPlot, Cond.instanceMethod yX5_isPlot, Cond.selects RX5 yX5_isPlot yX5_isPlot, Cond.code yX5_isPlot cX5_isPlot 3 (some .boolean)]
def wsX5_total_r3 : List Cond := [Cond.methodLink RX5 119 yX5_ownerOf, Cond.instanceMethod yX5_ownerOf, Cond.selects RX5 yX5_ownerOf yX5_ownerOf, Cond.code yX5_ownerOf cX5_ownerOf 8 (some .int), Cond.fieldLink RX5 22 "RainCellsModel" "reach" "[I", Cond.methodLink RX5 96 yX5_far, Cond.instanceMethod yX5_far, Cond.selects RX5 yX5_far yX5_far, Cond.code yX5_far cX5_far 4 (some .int), Cond.fieldLink RX5 16 "RainCellsModel" "px" "[I", Cond.fieldLink RX5 19 "RainCellsModel" "py" "[I", Cond.methodLink RX5 80 yX5_square, Cond.static yX5_square, Cond.code yX5_square cX5_square 1 (some .int), Cond.methodLink RX5 131 yX5_part, Cond.static yX5_part, Cond.code yX5_part cX5_part 4 (some .int), Cond.methodLink RX5 122 yX5_common, Cond.static yX5_common, Cond.code yX5_common cX5_common 6 (some .int)]
def wsX5_total : List Cond := .code yX5_total cX5_total 7 (some .int) :: ((wsX5_total_r1 ++ (wsX5_total_r2 ++ wsX5_total_r3)) ++ wsX50)
def wsX5_spread_r1 : List Cond := [Cond.fieldLink RX5 53 "RainCellsModel" "many" "I", Cond.methodLink RX5 84 yX5_isDay, Cond.static yX5_isDay, Cond.initialized RX5, Cond.code yX5_isDay cX5_isDay 1 (some .boolean), Cond.methodLink RX5 57 yX5_in, Cond.static yX5_in, Cond.code yX5_in cX5_in 3 (some .boolean), Cond.methodLink RX5 93 yX5_workingOn, Cond.instanceMethod yX5_workingOn, Cond.selects RX5 yX5_workingOn yX5_workingOn, Cond.code yX5_workingOn cX5_workingOn 4 (some .int), Cond.fieldLink RX5 25 "RainCellsModel" "isOut" "[Z", Cond.fieldLink RX5 29 "RainCellsModel" "readings" "[I", Cond.methodLink RX5 115 yX5_lookUp, Cond.instanceMethod yX5_lookUp, Cond.selects RX5 yX5_lookUp yX5_lookUp, Cond.code yX5_lookUp cX5_lookUp 5 none, Cond.fieldLink RX5 61 "RainCellsModel" "kept" "I", Cond.fieldLink RX5 32 "RainCellsModel" "sets" "[I", Cond.fieldLink RX5 103 "RainCellsModel" "found" "I", Cond.fieldLink RX5 106 "RainCellsModel" "worked" "I", Cond.fieldLink RX5 109 "RainCellsModel" "gone" "I", Cond.methodLink RX5 128 yX5_farOf]
def wsX5_spread_r2 : List Cond := [Cond.instanceMethod yX5_farOf, Cond.selects RX5 yX5_farOf yX5_farOf, Cond.code yX5_farOf cX5_farOf 5 (some .int), Cond.methodLink RX5 112 yX5_isPlot, Cond.instanceMethod yX5_isPlot, Cond.selects RX5 yX5_isPlot yX5_isPlot, Cond.code yX5_isPlot cX5_isPlot 3 (some .boolean), Cond.fieldLink RX5 7 "RainCellsModel" "from" "[I", Cond.fieldLink RX5 13 "RainCellsModel" "to" "[I", Cond.methodLink RX5 119 yX5_ownerOf, Cond.instanceMethod yX5_ownerOf, Cond.selects RX5 yX5_ownerOf yX5_ownerOf, Cond.code yX5_ownerOf cX5_ownerOf 8 (some .int), Cond.fieldLink RX5 22 "RainCellsModel" "reach" "[I", Cond.methodLink RX5 96 yX5_far, Cond.instanceMethod yX5_far, Cond.selects RX5 yX5_far yX5_far, Cond.code yX5_far cX5_far 4 (some .int), Cond.fieldLink RX5 16 "RainCellsModel" "px" "[I", Cond.fieldLink RX5 19 "RainCellsModel" "py" "[I", Cond.methodLink RX5 80 yX5_square, Cond.static yX5_square, Cond.code yX5_square cX5_square 1 (some .int), Cond.methodLink RX5 100 yX5_has]
def wsX5_spread_r3 : List Cond := [Cond.static yX5_has, Cond.code yX5_has cX5_has 2 (some .boolean)]
def wsX5_spread : List Cond := .code yX5_spread cX5_spread 5 (some .int) :: ((wsX5_spread_r1 ++ (wsX5_spread_r2 ++ wsX5_spread_r3)) ++ wsX50)
def wsX5_spreadWith_r1 : List Cond := [Cond.fieldLink RX5 22 "RainCellsModel" "reach" "[I", Cond.methodLink RX5 112 yX5_isPlot, Cond.instanceMethod yX5_isPlot, Cond.selects RX5 yX5_isPlot yX5_isPlot, Cond.initialized RX5, Cond.code yX5_isPlot cX5_isPlot 3 (some .boolean), Cond.fieldLink RX5 7 "RainCellsModel" "from" "[I", Cond.fieldLink RX5 13 "RainCellsModel" "to" "[I", Cond.methodLink RX5 57 yX5_in, Cond.static yX5_in, Cond.code yX5_in cX5_in 3 (some .boolean), Cond.methodLink RX5 119 yX5_ownerOf, Cond.instanceMethod yX5_ownerOf, Cond.selects RX5 yX5_ownerOf yX5_ownerOf, Cond.code yX5_ownerOf cX5_ownerOf 8 (some .int), Cond.fieldLink RX5 53 "RainCellsModel" "many" "I", Cond.methodLink RX5 96 yX5_far, Cond.instanceMethod yX5_far, Cond.selects RX5 yX5_far yX5_far, Cond.code yX5_far cX5_far 4 (some .int), Cond.fieldLink RX5 16 "RainCellsModel" "px" "[I", Cond.fieldLink RX5 19 "RainCellsModel" "py" "[I", Cond.methodLink RX5 80 yX5_square, Cond.static yX5_square]
def wsX5_spreadWith_r2 : List Cond := [Cond.code yX5_square cX5_square 1 (some .int), Cond.methodLink RX5 100 yX5_has, Cond.static yX5_has, Cond.code yX5_has cX5_has 2 (some .boolean)]
def wsX5_spreadWith : List Cond := .code yX5_spreadWith cX5_spreadWith 10 (some .int) :: ((wsX5_spreadWith_r1 ++ wsX5_spreadWith_r2) ++ wsX50)
def wsX5_next_r1 : List Cond := [Cond.methodLink RX5 84 yX5_isDay, Cond.static yX5_isDay, Cond.initialized RX5, Cond.code yX5_isDay cX5_isDay 1 (some .boolean), Cond.methodLink RX5 57 yX5_in, Cond.static yX5_in, Cond.code yX5_in cX5_in 3 (some .boolean), Cond.methodLink RX5 93 yX5_workingOn, Cond.instanceMethod yX5_workingOn, Cond.selects RX5 yX5_workingOn yX5_workingOn, Cond.code yX5_workingOn cX5_workingOn 4 (some .int), Cond.fieldLink RX5 53 "RainCellsModel" "many" "I", Cond.fieldLink RX5 25 "RainCellsModel" "isOut" "[Z", Cond.fieldLink RX5 29 "RainCellsModel" "readings" "[I", Cond.methodLink RX5 112 yX5_isPlot, Cond.instanceMethod yX5_isPlot, Cond.selects RX5 yX5_isPlot yX5_isPlot, Cond.code yX5_isPlot cX5_isPlot 3 (some .boolean), Cond.fieldLink RX5 7 "RainCellsModel" "from" "[I", Cond.fieldLink RX5 13 "RainCellsModel" "to" "[I", Cond.methodLink RX5 72 yX5_gaugeAt, Cond.instanceMethod yX5_gaugeAt, Cond.selects RX5 yX5_gaugeAt yX5_gaugeAt, Cond.code yX5_gaugeAt cX5_gaugeAt 5 (some .int)]
def wsX5_next_r2 : List Cond := [Cond.fieldLink RX5 16 "RainCellsModel" "px" "[I", Cond.fieldLink RX5 19 "RainCellsModel" "py" "[I", Cond.methodLink RX5 150 yX5_spreadWith, Cond.instanceMethod yX5_spreadWith, Cond.selects RX5 yX5_spreadWith yX5_spreadWith, Cond.code yX5_spreadWith cX5_spreadWith 10 (some .int), Cond.fieldLink RX5 22 "RainCellsModel" "reach" "[I", Cond.methodLink RX5 119 yX5_ownerOf, Cond.instanceMethod yX5_ownerOf, Cond.selects RX5 yX5_ownerOf yX5_ownerOf, Cond.code yX5_ownerOf cX5_ownerOf 8 (some .int), Cond.methodLink RX5 96 yX5_far, Cond.instanceMethod yX5_far, Cond.selects RX5 yX5_far yX5_far, Cond.code yX5_far cX5_far 4 (some .int), Cond.methodLink RX5 80 yX5_square, Cond.static yX5_square, Cond.code yX5_square cX5_square 1 (some .int), Cond.methodLink RX5 100 yX5_has, Cond.static yX5_has, Cond.code yX5_has cX5_has 2 (some .boolean)]
def wsX5_next : List Cond := .code yX5_next cX5_next 8 (some .int) :: ((wsX5_next_r1 ++ wsX5_next_r2) ++ wsX50)
def wsX5_sharedOf_r1 : List Cond := [Cond.methodLink RX5 112 yX5_isPlot, Cond.instanceMethod yX5_isPlot, Cond.selects RX5 yX5_isPlot yX5_isPlot, Cond.initialized RX5, Cond.code yX5_isPlot cX5_isPlot 3 (some .boolean), Cond.fieldLink RX5 7 "RainCellsModel" "from" "[I", Cond.fieldLink RX5 13 "RainCellsModel" "to" "[I", Cond.methodLink RX5 57 yX5_in, Cond.static yX5_in, Cond.code yX5_in cX5_in 3 (some .boolean), Cond.methodLink RX5 119 yX5_ownerOf, Cond.instanceMethod yX5_ownerOf, Cond.selects RX5 yX5_ownerOf yX5_ownerOf, Cond.code yX5_ownerOf cX5_ownerOf 8 (some .int), Cond.fieldLink RX5 53 "RainCellsModel" "many" "I", Cond.fieldLink RX5 22 "RainCellsModel" "reach" "[I", Cond.methodLink RX5 96 yX5_far, Cond.instanceMethod yX5_far, Cond.selects RX5 yX5_far yX5_far, Cond.code yX5_far cX5_far 4 (some .int), Cond.fieldLink RX5 16 "RainCellsModel" "px" "[I", Cond.fieldLink RX5 19 "RainCellsModel" "py" "[I", Cond.methodLink RX5 80 yX5_square, Cond.static yX5_square]
def wsX5_sharedOf_r2 : List Cond := [Cond.code yX5_square cX5_square 1 (some .int), Cond.methodLink RX5 100 yX5_has, Cond.static yX5_has, Cond.code yX5_has cX5_has 2 (some .boolean)]
def wsX5_sharedOf : List Cond := .code yX5_sharedOf cX5_sharedOf 8 (some .int) :: ((wsX5_sharedOf_r1 ++ wsX5_sharedOf_r2) ++ wsX50)
def wsX5_without : List Cond := .code yX5_without cX5_without 2 (some .int) :: ([])
def wsX5_lookUpBoth : List Cond := .code yX5_lookUpBoth cX5_lookUpBoth 3 none :: ([.methodLink RX5 115 yX5_lookUp, .instanceMethod yX5_lookUp, .selects RX5 yX5_lookUp yX5_lookUp, .initialized RX5, .code yX5_lookUp cX5_lookUp 5 none, .fieldLink RX5 61 "RainCellsModel" "kept" "I", .fieldLink RX5 32 "RainCellsModel" "sets" "[I", .fieldLink RX5 103 "RainCellsModel" "found" "I", .fieldLink RX5 106 "RainCellsModel" "worked" "I", .fieldLink RX5 109 "RainCellsModel" "gone" "I", .methodLink RX5 153 yX5_without, .static yX5_without, .code yX5_without cX5_without 2 (some .int)] ++ wsX50)
def wsX5_shared_r1 : List Cond := [Cond.methodLink RX5 76 yX5_isGauge, Cond.instanceMethod yX5_isGauge, Cond.selects RX5 yX5_isGauge yX5_isGauge, Cond.initialized RX5, Cond.code yX5_isGauge cX5_isGauge 2 (some .boolean), Cond.fieldLink RX5 53 "RainCellsModel" "many" "I", Cond.methodLink RX5 57 yX5_in, Cond.static yX5_in, Cond.code yX5_in cX5_in 3 (some .boolean), Cond.methodLink RX5 84 yX5_isDay, Cond.static yX5_isDay, Cond.code yX5_isDay cX5_isDay 1 (some .boolean), Cond.methodLink RX5 93 yX5_workingOn, Cond.instanceMethod yX5_workingOn, Cond.selects RX5 yX5_workingOn yX5_workingOn, Cond.code yX5_workingOn cX5_workingOn 4 (some .int), Cond.fieldLink RX5 25 "RainCellsModel" "isOut" "[Z", Cond.fieldLink RX5 29 "RainCellsModel" "readings" "[I", Cond.methodLink RX5 153 yX5_without, Cond.static yX5_without, Cond.code yX5_without cX5_without 2 (some .int), Cond.methodLink RX5 156 yX5_lookUpBoth, Cond.instanceMethod yX5_lookUpBoth, Cond.selects RX5 yX5_lookUpBoth yX5_lookUpBoth]
def wsX5_shared_r2 : List Cond := [Cond.code yX5_lookUpBoth cX5_lookUpBoth 3 none, Cond.methodLink RX5 115 yX5_lookUp, Cond.instanceMethod yX5_lookUp, Cond.selects RX5 yX5_lookUp yX5_lookUp, Cond.code yX5_lookUp cX5_lookUp 5 none, Cond.fieldLink RX5 61 "RainCellsModel" "kept" "I", Cond.fieldLink RX5 32 "RainCellsModel" "sets" "[I", Cond.fieldLink RX5 103 "RainCellsModel" "found" "I", Cond.fieldLink RX5 106 "RainCellsModel" "worked" "I", Cond.fieldLink RX5 109 "RainCellsModel" "gone" "I", Cond.methodLink RX5 100 yX5_has, Cond.static yX5_has, Cond.code yX5_has cX5_has 2 (some .boolean), Cond.methodLink RX5 160 yX5_sharedOf, Cond.instanceMethod yX5_sharedOf, Cond.selects RX5 yX5_sharedOf yX5_sharedOf, Cond.code yX5_sharedOf cX5_sharedOf 8 (some .int), Cond.methodLink RX5 112 yX5_isPlot, Cond.instanceMethod yX5_isPlot, Cond.selects RX5 yX5_isPlot yX5_isPlot, Cond.code yX5_isPlot cX5_isPlot 3 (some .boolean), Cond.fieldLink RX5 7 "RainCellsModel" "from" "[I", Cond.fieldLink RX5 13 "RainCellsModel" "to" "[I", Cond.methodLink RX5 119 yX5_ownerOf]
def wsX5_shared_r3 : List Cond := [Cond.instanceMethod yX5_ownerOf, Cond.selects RX5 yX5_ownerOf yX5_ownerOf, Cond.code yX5_ownerOf cX5_ownerOf 8 (some .int), Cond.fieldLink RX5 22 "RainCellsModel" "reach" "[I", Cond.methodLink RX5 96 yX5_far, Cond.instanceMethod yX5_far, Cond.selects RX5 yX5_far yX5_far, Cond.code yX5_far cX5_far 4 (some .int), Cond.fieldLink RX5 16 "RainCellsModel" "px" "[I", Cond.fieldLink RX5 19 "RainCellsModel" "py" "[I", Cond.methodLink RX5 80 yX5_square, Cond.static yX5_square, Cond.code yX5_square cX5_square 1 (some .int)]
def wsX5_shared : List Cond := .code yX5_shared cX5_shared 5 (some .int) :: ((wsX5_shared_r1 ++ (wsX5_shared_r2 ++ wsX5_shared_r3)) ++ wsX50)
def wsX5_sharedWater_r1 : List Cond := [Cond.fieldLink RX5 53 "RainCellsModel" "many" "I", Cond.fieldLink RX5 29 "RainCellsModel" "readings" "[I", Cond.methodLink RX5 93 yX5_workingOn, Cond.instanceMethod yX5_workingOn, Cond.selects RX5 yX5_workingOn yX5_workingOn, Cond.initialized RX5, Cond.code yX5_workingOn cX5_workingOn 4 (some .int), Cond.fieldLink RX5 25 "RainCellsModel" "isOut" "[Z", Cond.methodLink RX5 100 yX5_has, Cond.static yX5_has, Cond.code yX5_has cX5_has 2 (some .boolean), Cond.methodLink RX5 160 yX5_sharedOf, Cond.instanceMethod yX5_sharedOf, Cond.selects RX5 yX5_sharedOf yX5_sharedOf, Cond.code yX5_sharedOf cX5_sharedOf 8 (some .int), Cond.methodLink RX5 112 yX5_isPlot, Cond.instanceMethod yX5_isPlot, Cond.selects RX5 yX5_isPlot yX5_isPlot, Cond.code yX5_isPlot cX5_isPlot 3 (some .boolean), Cond.fieldLink RX5 7 "RainCellsModel" "from" "[I", Cond.fieldLink RX5 13 "RainCellsModel" "to" "[I", Cond.methodLink RX5 57 yX5_in, Cond.static yX5_in, Cond.code yX5_in cX5_in 3 (some .boolean)]
def wsX5_sharedWater_r2 : List Cond := [Cond.methodLink RX5 119 yX5_ownerOf, Cond.instanceMethod yX5_ownerOf, Cond.selects RX5 yX5_ownerOf yX5_ownerOf, Cond.code yX5_ownerOf cX5_ownerOf 8 (some .int), Cond.fieldLink RX5 22 "RainCellsModel" "reach" "[I", Cond.methodLink RX5 96 yX5_far, Cond.instanceMethod yX5_far, Cond.selects RX5 yX5_far yX5_far, Cond.code yX5_far cX5_far 4 (some .int), Cond.fieldLink RX5 16 "RainCellsModel" "px" "[I", Cond.fieldLink RX5 19 "RainCellsModel" "py" "[I", Cond.methodLink RX5 80 yX5_square, Cond.static yX5_square, Cond.code yX5_square cX5_square 1 (some .int)]
def wsX5_sharedWater : List Cond := .code yX5_sharedWater cX5_sharedWater 6 (some .int) :: ((wsX5_sharedWater_r1 ++ wsX5_sharedWater_r2) ++ wsX50)
def wsX5_estimate_r1 : List Cond := [Cond.methodLink RX5 76 yX5_isGauge, Cond.instanceMethod yX5_isGauge, Cond.selects RX5 yX5_isGauge yX5_isGauge, Cond.initialized RX5, Cond.code yX5_isGauge cX5_isGauge 2 (some .boolean), Cond.fieldLink RX5 53 "RainCellsModel" "many" "I", Cond.methodLink RX5 57 yX5_in, Cond.static yX5_in, Cond.code yX5_in cX5_in 3 (some .boolean), Cond.methodLink RX5 84 yX5_isDay, Cond.static yX5_isDay, Cond.code yX5_isDay cX5_isDay 1 (some .boolean), Cond.methodLink RX5 93 yX5_workingOn, Cond.instanceMethod yX5_workingOn, Cond.selects RX5 yX5_workingOn yX5_workingOn, Cond.code yX5_workingOn cX5_workingOn 4 (some .int), Cond.fieldLink RX5 25 "RainCellsModel" "isOut" "[Z", Cond.fieldLink RX5 29 "RainCellsModel" "readings" "[I", Cond.methodLink RX5 153 yX5_without, Cond.static yX5_without, Cond.code yX5_without cX5_without 2 (some .int), Cond.methodLink RX5 156 yX5_lookUpBoth, Cond.instanceMethod yX5_lookUpBoth, Cond.selects RX5 yX5_lookUpBoth yX5_lookUpBoth]
def wsX5_estimate_r2 : List Cond := [Cond.code yX5_lookUpBoth cX5_lookUpBoth 3 none, Cond.methodLink RX5 115 yX5_lookUp, Cond.instanceMethod yX5_lookUp, Cond.selects RX5 yX5_lookUp yX5_lookUp, Cond.code yX5_lookUp cX5_lookUp 5 none, Cond.fieldLink RX5 61 "RainCellsModel" "kept" "I", Cond.fieldLink RX5 32 "RainCellsModel" "sets" "[I", Cond.fieldLink RX5 103 "RainCellsModel" "found" "I", Cond.fieldLink RX5 106 "RainCellsModel" "worked" "I", Cond.fieldLink RX5 109 "RainCellsModel" "gone" "I", Cond.methodLink RX5 125 yX5_size, Cond.instanceMethod yX5_size, Cond.selects RX5 yX5_size yX5_size, Cond.code yX5_size cX5_size 5 (some .int), Cond.methodLink RX5 112 yX5_isPlot, Cond.instanceMethod yX5_isPlot, Cond.selects RX5 yX5_isPlot yX5_isPlot, Cond.code yX5_isPlot cX5_isPlot 3 (some .boolean), Cond.fieldLink RX5 7 "RainCellsModel" "from" "[I", Cond.fieldLink RX5 13 "RainCellsModel" "to" "[I", Cond.methodLink RX5 119 yX5_ownerOf, Cond.instanceMethod yX5_ownerOf, Cond.selects RX5 yX5_ownerOf yX5_ownerOf, Cond.code yX5_ownerOf cX5_ownerOf 8 (some .int)]
def wsX5_estimate_r3 : List Cond := [Cond.fieldLink RX5 22 "RainCellsModel" "reach" "[I", Cond.methodLink RX5 96 yX5_far, Cond.instanceMethod yX5_far, Cond.selects RX5 yX5_far yX5_far, Cond.code yX5_far cX5_far 4 (some .int), Cond.fieldLink RX5 16 "RainCellsModel" "px" "[I", Cond.fieldLink RX5 19 "RainCellsModel" "py" "[I", Cond.methodLink RX5 80 yX5_square, Cond.static yX5_square, Cond.code yX5_square cX5_square 1 (some .int), Cond.methodLink RX5 100 yX5_has, Cond.static yX5_has, Cond.code yX5_has cX5_has 2 (some .boolean), Cond.methodLink RX5 163 yX5_sharedWater, Cond.instanceMethod yX5_sharedWater, Cond.selects RX5 yX5_sharedWater yX5_sharedWater, Cond.code yX5_sharedWater cX5_sharedWater 6 (some .int), Cond.methodLink RX5 160 yX5_sharedOf, Cond.instanceMethod yX5_sharedOf, Cond.selects RX5 yX5_sharedOf yX5_sharedOf, Cond.code yX5_sharedOf cX5_sharedOf 8 (some .int), Cond.methodLink RX5 131 yX5_part, Cond.static yX5_part, Cond.code yX5_part cX5_part 4 (some .int)]
def wsX5_estimate_r4 : List Cond := [Cond.methodLink RX5 122 yX5_common, Cond.static yX5_common, Cond.code yX5_common cX5_common 6 (some .int)]
def wsX5_estimate : List Cond := .code yX5_estimate cX5_estimate 6 (some .int) :: ((wsX5_estimate_r1 ++ (wsX5_estimate_r2 ++ (wsX5_estimate_r3 ++ wsX5_estimate_r4))) ++ wsX50)
def wsX5_doubt_r1 : List Cond := [Cond.fieldLink RX5 53 "RainCellsModel" "many" "I", Cond.fieldLink RX5 29 "RainCellsModel" "readings" "[I", Cond.methodLink RX5 84 yX5_isDay, Cond.static yX5_isDay, Cond.initialized RX5, Cond.code yX5_isDay cX5_isDay 1 (some .boolean), Cond.methodLink RX5 57 yX5_in, Cond.static yX5_in, Cond.code yX5_in cX5_in 3 (some .boolean), Cond.methodLink RX5 93 yX5_workingOn, Cond.instanceMethod yX5_workingOn, Cond.selects RX5 yX5_workingOn yX5_workingOn, Cond.code yX5_workingOn cX5_workingOn 4 (some .int), Cond.fieldLink RX5 25 "RainCellsModel" "isOut" "[Z", Cond.methodLink RX5 100 yX5_has, Cond.static yX5_has, Cond.code yX5_has cX5_has 2 (some .boolean), Cond.methodLink RX5 153 yX5_without, Cond.static yX5_without, Cond.code yX5_without cX5_without 2 (some .int), Cond.methodLink RX5 156 yX5_lookUpBoth, Cond.instanceMethod yX5_lookUpBoth, Cond.selects RX5 yX5_lookUpBoth yX5_lookUpBoth, Cond.code yX5_lookUpBoth cX5_lookUpBoth 3 none]
def wsX5_doubt_r2 : List Cond := [Cond.methodLink RX5 115 yX5_lookUp, Cond.instanceMethod yX5_lookUp, Cond.selects RX5 yX5_lookUp yX5_lookUp, Cond.code yX5_lookUp cX5_lookUp 5 none, Cond.fieldLink RX5 61 "RainCellsModel" "kept" "I", Cond.fieldLink RX5 32 "RainCellsModel" "sets" "[I", Cond.fieldLink RX5 103 "RainCellsModel" "found" "I", Cond.fieldLink RX5 106 "RainCellsModel" "worked" "I", Cond.fieldLink RX5 109 "RainCellsModel" "gone" "I", Cond.methodLink RX5 125 yX5_size, Cond.instanceMethod yX5_size, Cond.selects RX5 yX5_size yX5_size, Cond.code yX5_size cX5_size 5 (some .int), Cond.methodLink RX5 112 yX5_isPlot, Cond.instanceMethod yX5_isPlot, Cond.selects RX5 yX5_isPlot yX5_isPlot, Cond.code yX5_isPlot cX5_isPlot 3 (some .boolean), Cond.fieldLink RX5 7 "RainCellsModel" "from" "[I", Cond.fieldLink RX5 13 "RainCellsModel" "to" "[I", Cond.methodLink RX5 119 yX5_ownerOf, Cond.instanceMethod yX5_ownerOf, Cond.selects RX5 yX5_ownerOf yX5_ownerOf, Cond.code yX5_ownerOf cX5_ownerOf 8 (some .int), Cond.fieldLink RX5 22 "RainCellsModel" "reach" "[I"]
def wsX5_doubt_r3 : List Cond := [Cond.methodLink RX5 96 yX5_far, Cond.instanceMethod yX5_far, Cond.selects RX5 yX5_far yX5_far, Cond.code yX5_far cX5_far 4 (some .int), Cond.fieldLink RX5 16 "RainCellsModel" "px" "[I", Cond.fieldLink RX5 19 "RainCellsModel" "py" "[I", Cond.methodLink RX5 80 yX5_square, Cond.static yX5_square, Cond.code yX5_square cX5_square 1 (some .int), Cond.methodLink RX5 163 yX5_sharedWater, Cond.instanceMethod yX5_sharedWater, Cond.selects RX5 yX5_sharedWater yX5_sharedWater, Cond.code yX5_sharedWater cX5_sharedWater 6 (some .int), Cond.methodLink RX5 160 yX5_sharedOf, Cond.instanceMethod yX5_sharedOf, Cond.selects RX5 yX5_sharedOf yX5_sharedOf, Cond.code yX5_sharedOf cX5_sharedOf 8 (some .int)]
def wsX5_doubt : List Cond := .code yX5_doubt cX5_doubt 8 (some .int) :: ((wsX5_doubt_r1 ++ (wsX5_doubt_r2 ++ wsX5_doubt_r3)) ++ wsX50)
def wsX5_kept : List Cond := .code yX5_kept cX5_kept 2 (some .int) :: ([.fieldLink RX5 61 "RainCellsModel" "kept" "I", .fieldLink RX5 32 "RainCellsModel" "sets" "[I", .methodLink RX5 57 yX5_in, .static yX5_in, .initialized RX5, .code yX5_in cX5_in 3 (some .boolean)] ++ wsX50)
def wsX5_image : List Cond := .code yX5_image cX5_image 3 (some .int) :: ([.fieldLink RX5 38 "RainCellsModel" "imageRows" "[I", .fieldLink RX5 7 "RainCellsModel" "from" "[I", .fieldLink RX5 13 "RainCellsModel" "to" "[I", .fieldLink RX5 44 "RainCellsModel" "imageGauges" "[I", .fieldLink RX5 16 "RainCellsModel" "px" "[I", .fieldLink RX5 19 "RainCellsModel" "py" "[I", .fieldLink RX5 22 "RainCellsModel" "reach" "[I", .fieldLink RX5 47 "RainCellsModel" "imageOut" "[Z", .fieldLink RX5 25 "RainCellsModel" "isOut" "[Z", .fieldLink RX5 50 "RainCellsModel" "imageReadings" "[I", .fieldLink RX5 29 "RainCellsModel" "readings" "[I", .fieldLink RX5 41 "RainCellsModel" "imageMany" "[I", .fieldLink RX5 53 "RainCellsModel" "many" "I", .fieldLink RX5 35 "RainCellsModel" "isKept" "[Z", .methodLink RX5 57 yX5_in, .static yX5_in, .initialized RX5, .code yX5_in cX5_in 3 (some .boolean)] ++ wsX50)
def wsX5_restore : List Cond := .code yX5_restore cX5_restore 3 (some .int) :: ([.fieldLink RX5 35 "RainCellsModel" "isKept" "[Z", .fieldLink RX5 7 "RainCellsModel" "from" "[I", .fieldLink RX5 38 "RainCellsModel" "imageRows" "[I", .fieldLink RX5 13 "RainCellsModel" "to" "[I", .fieldLink RX5 16 "RainCellsModel" "px" "[I", .fieldLink RX5 44 "RainCellsModel" "imageGauges" "[I", .fieldLink RX5 19 "RainCellsModel" "py" "[I", .fieldLink RX5 22 "RainCellsModel" "reach" "[I", .fieldLink RX5 25 "RainCellsModel" "isOut" "[Z", .fieldLink RX5 47 "RainCellsModel" "imageOut" "[Z", .fieldLink RX5 29 "RainCellsModel" "readings" "[I", .fieldLink RX5 50 "RainCellsModel" "imageReadings" "[I", .fieldLink RX5 41 "RainCellsModel" "imageMany" "[I", .fieldLink RX5 53 "RainCellsModel" "many" "I", .fieldLink RX5 61 "RainCellsModel" "kept" "I", .methodLink RX5 57 yX5_in, .static yX5_in, .initialized RX5, .code yX5_in cX5_in 3 (some .boolean)] ++ wsX50)
def wsX5_count : List Cond := .code yX5_count cX5_count 2 (some .int) :: ([.fieldLink RX5 53 "RainCellsModel" "many" "I", .fieldLink RX5 61 "RainCellsModel" "kept" "I", .fieldLink RX5 103 "RainCellsModel" "found" "I", .fieldLink RX5 106 "RainCellsModel" "worked" "I", .fieldLink RX5 109 "RainCellsModel" "gone" "I", .fieldLink RX5 35 "RainCellsModel" "isKept" "[Z", .fieldLink RX5 7 "RainCellsModel" "from" "[I", .fieldLink RX5 13 "RainCellsModel" "to" "[I", .methodLink RX5 64 yX5_plots, .instanceMethod yX5_plots, .selects RX5 yX5_plots yX5_plots, .initialized RX5, .code yX5_plots cX5_plots 3 (some .int), .methodLink RX5 57 yX5_in, .static yX5_in, .code yX5_in cX5_in 3 (some .boolean)] ++ wsX50)
def wsJ9_abs_0f7a4 : List Cond := .code yJ9_abs_0f7a4 cJ9_abs_0f7a4 1 (some .int) :: ([])
def wsJ9_max_7cf53 : List Cond := .code yJ9_max_7cf53 cJ9_max_7cf53 2 (some .int) :: ([])
def wsL_law_r1 : List Cond := [Cond.classLink RL 7 RX4, Cond.instantiable RX4 5, Cond.initialized RX4, Cond.classLink RL 10 RX5, Cond.instantiable RX5 19, Cond.initialized RX5, Cond.methodLink RL 9 yX4_init, Cond.instanceMethod yX4_init, Cond.code yX4_init cX4_init 2 none, Cond.methodLink RX4 3 objectInit, Cond.instanceMethod objectInit, Cond.code objectInit ⟨#[0xb1]⟩ 1 none, Cond.classLink RX4 9 RX1, Cond.instantiable RX1 8, Cond.initialized RX1, Cond.fieldLink RX4 12 "RainCells" "scene" "LRainCells$Scene;", Cond.fieldLink RX4 16 "RainCells" "images" "[LRainCells$Scene;", Cond.fieldLink RX4 20 "RainCells" "imagesKept" "I", Cond.classLink RX4 24 RX3, Cond.instantiable RX3 7, Cond.initialized RX3, Cond.fieldLink RX4 27 "RainCells" "store" "LRainCells$Store;", Cond.classLink RX4 31 RX2, Cond.instantiable RX2 8]
def wsL_law_r2 : List Cond := [Cond.initialized RX2, Cond.fieldLink RX4 34 "RainCells" "search" "LRainCells$Search;", Cond.methodLink RX4 11 yX1_init, Cond.instanceMethod yX1_init, Cond.code yX1_init cX1_init 2 none, Cond.methodLink RX1 3 objectInit, Cond.arrayClass .int, Cond.fieldLink RX1 9 "RainCells$Scene" "rowFrom" "[I", Cond.fieldLink RX1 15 "RainCells$Scene" "rowTo" "[I", Cond.fieldLink RX1 18 "RainCells$Scene" "gauges" "I", Cond.fieldLink RX1 22 "RainCells$Scene" "placeX" "[I", Cond.fieldLink RX1 25 "RainCells$Scene" "placeY" "[I", Cond.fieldLink RX1 28 "RainCells$Scene" "reaches" "[I", Cond.arrayClass .long, Cond.fieldLink RX1 31 "RainCells$Scene" "out" "[J", Cond.fieldLink RX1 35 "RainCells$Scene" "readings" "[I", Cond.methodLink RX4 26 yX3_init, Cond.instanceMethod yX3_init, Cond.code yX3_init cX3_init 2 none, Cond.methodLink RX3 3 objectInit, Cond.classLink RX3 9 RX0, Cond.fieldLink RX3 11 "RainCells$Store" "cells" "[LRainCells$Cells;", Cond.fieldLink RX3 17 "RainCells$Store" "size" "I", Cond.fieldLink RX3 21 "RainCells$Store" "found" "I"]
def wsL_law_r3 : List Cond := [Cond.fieldLink RX3 24 "RainCells$Store" "workedOut" "I", Cond.fieldLink RX3 27 "RainCells$Store" "replaced" "I", Cond.instantiable RX0 4, Cond.initialized RX0, Cond.fieldLink RX3 31 "RainCells$Store" "empty" "LRainCells$Cells;", Cond.fieldLink RX3 35 "RainCells$Store" "lefts" "[I", Cond.methodLink RX3 30 yX0_init, Cond.instanceMethod yX0_init, Cond.code yX0_init cX0_init 2 none, Cond.methodLink RX0 3 objectInit, Cond.fieldLink RX0 9 "RainCells$Cells" "set" "I", Cond.fieldLink RX0 15 "RainCells$Cells" "owners" "[I", Cond.fieldLink RX0 19 "RainCells$Cells" "plots" "[I", Cond.fieldLink RX0 22 "RainCells$Cells" "fars" "[I", Cond.instanceMethod yX2_init, Cond.code yX2_init cX2_init 1 none, Cond.methodLink RX2 3 objectInit, Cond.constant RX2 9 (1000000000), Cond.fieldLink RX2 10 "RainCells$Search" "least" "I", Cond.fieldLink RX2 16 "RainCells$Search" "leastX" "I", Cond.fieldLink RX2 19 "RainCells$Search" "leastY" "I", Cond.classLink RX2 22 RX0, Cond.fieldLink RX2 25 "RainCells$Search" "cells" "LRainCells$Cells;", Cond.fieldLink RX2 29 "RainCells$Search" "lefts" "[I"]
def wsL_law_r4 : List Cond := [Cond.fieldLink RX2 33 "RainCells$Search" "fars" "[I", Cond.fieldLink RX2 36 "RainCells$Search" "rowMost" "[I", Cond.fieldLink RX2 39 "RainCells$Search" "rowFar" "[I", Cond.methodLink RX2 24 yX0_init, Cond.methodLink RL 12 yX5_init, Cond.instanceMethod yX5_init, Cond.code yX5_init cX5_init 2 none, Cond.methodLink RX5 1 objectInit, Cond.fieldLink RX5 7 "RainCellsModel" "from" "[I", Cond.fieldLink RX5 13 "RainCellsModel" "to" "[I", Cond.fieldLink RX5 16 "RainCellsModel" "px" "[I", Cond.fieldLink RX5 19 "RainCellsModel" "py" "[I", Cond.fieldLink RX5 22 "RainCellsModel" "reach" "[I", Cond.arrayClass .boolean, Cond.fieldLink RX5 25 "RainCellsModel" "isOut" "[Z", Cond.fieldLink RX5 29 "RainCellsModel" "readings" "[I", Cond.fieldLink RX5 32 "RainCellsModel" "sets" "[I", Cond.fieldLink RX5 35 "RainCellsModel" "isKept" "[Z", Cond.fieldLink RX5 38 "RainCellsModel" "imageRows" "[I", Cond.fieldLink RX5 41 "RainCellsModel" "imageMany" "[I", Cond.fieldLink RX5 44 "RainCellsModel" "imageGauges" "[I", Cond.fieldLink RX5 47 "RainCellsModel" "imageOut" "[Z", Cond.fieldLink RX5 50 "RainCellsModel" "imageReadings" "[I", Cond.methodLink RL 13 yX4_row]
def wsL_law_r5 : List Cond := [Cond.instanceMethod yX4_row, Cond.selects RX4 yX4_row yX4_row, Cond.code yX4_row cX4_row 4 (some .int), Cond.fieldLink RX4 42 "RainCells$Scene" "rowFrom" "[I", Cond.fieldLink RX4 46 "RainCells$Scene" "rowTo" "[I", Cond.methodLink RX4 38 yX4_isPlot, Cond.static yX4_isPlot, Cond.code yX4_isPlot cX4_isPlot 2 (some .boolean), Cond.methodLink RX4 49 yX3_letAllGo, Cond.instanceMethod yX3_letAllGo, Cond.selects RX3 yX3_letAllGo yX3_letAllGo, Cond.code yX3_letAllGo cX3_letAllGo 1 none, Cond.methodLink RX4 52 yX1_plotCount, Cond.instanceMethod yX1_plotCount, Cond.selects RX1 yX1_plotCount yX1_plotCount, Cond.code yX1_plotCount cX1_plotCount 3 (some .int), Cond.methodLink RX1 44 yX1_rowHasPlots, Cond.instanceMethod yX1_rowHasPlots, Cond.selects RX1 yX1_rowHasPlots yX1_rowHasPlots, Cond.code yX1_rowHasPlots cX1_rowHasPlots 2 (some .boolean), Cond.methodLink RL 17 yX5_row, Cond.instanceMethod yX5_row, Cond.selects RX5 yX5_row yX5_row, Cond.code yX5_row cX5_row 4 (some .int)]
def wsL_law_r6 : List Cond := [Cond.fieldLink RX5 61 "RainCellsModel" "kept" "I", Cond.methodLink RX5 57 yX5_in, Cond.static yX5_in, Cond.code yX5_in cX5_in 3 (some .boolean), Cond.methodLink RX5 64 yX5_plots, Cond.instanceMethod yX5_plots, Cond.selects RX5 yX5_plots yX5_plots, Cond.code yX5_plots cX5_plots 3 (some .int), Cond.methodLink RL 18 yX4_gauge, Cond.instanceMethod yX4_gauge, Cond.selects RX4 yX4_gauge yX4_gauge, Cond.code yX4_gauge cX4_gauge 4 (some .int), Cond.fieldLink RX4 63 "RainCells$Scene" "gauges" "I", Cond.fieldLink RX4 66 "RainCells$Scene" "placeX" "[I", Cond.fieldLink RX4 69 "RainCells$Scene" "placeY" "[I", Cond.methodLink RX4 56 yX4_isPlace, Cond.static yX4_isPlace, Cond.code yX4_isPlace cX4_isPlace 2 (some .boolean), Cond.methodLink RX4 59 yX1_gaugeAt, Cond.instanceMethod yX1_gaugeAt, Cond.selects RX1 yX1_gaugeAt yX1_gaugeAt, Cond.code yX1_gaugeAt cX1_gaugeAt 4 (some .int), Cond.methodLink RL 22 yX5_gauge, Cond.instanceMethod yX5_gauge]
def wsL_law_r7 : List Cond := [Cond.selects RX5 yX5_gauge yX5_gauge, Cond.code yX5_gauge cX5_gauge 4 (some .int), Cond.fieldLink RX5 53 "RainCellsModel" "many" "I", Cond.methodLink RX5 68 yX5_isPlace, Cond.static yX5_isPlace, Cond.code yX5_isPlace cX5_isPlace 2 (some .boolean), Cond.methodLink RX5 72 yX5_gaugeAt, Cond.instanceMethod yX5_gaugeAt, Cond.selects RX5 yX5_gaugeAt yX5_gaugeAt, Cond.code yX5_gaugeAt cX5_gaugeAt 5 (some .int), Cond.methodLink RL 23 yX4_move, Cond.instanceMethod yX4_move, Cond.selects RX4 yX4_move yX4_move, Cond.code yX4_move cX4_move 6 (some .int), Cond.methodLink RX4 72 yX1_knows, Cond.instanceMethod yX1_knows, Cond.selects RX1 yX1_knows yX1_knows, Cond.code yX1_knows cX1_knows 2 (some .boolean), Cond.methodLink RX4 76 yX1_farFrom, Cond.instanceMethod yX1_farFrom, Cond.selects RX1 yX1_farFrom yX1_farFrom, Cond.code yX1_farFrom cX1_farFrom 6 (some .int), Cond.methodLink RL 26 yX5_move, Cond.instanceMethod yX5_move]
def wsL_law_r8 : List Cond := [Cond.selects RX5 yX5_move yX5_move, Cond.code yX5_move cX5_move 6 (some .int), Cond.methodLink RX5 76 yX5_isGauge, Cond.instanceMethod yX5_isGauge, Cond.selects RX5 yX5_isGauge yX5_isGauge, Cond.code yX5_isGauge cX5_isGauge 2 (some .boolean), Cond.methodLink RX5 80 yX5_square, Cond.static yX5_square, Cond.code yX5_square cX5_square 1 (some .int), Cond.methodLink RL 27 yX4_reach, Cond.instanceMethod yX4_reach, Cond.selects RX4 yX4_reach yX4_reach, Cond.code yX4_reach cX4_reach 4 (some .int), Cond.fieldLink RX4 80 "RainCells$Scene" "reaches" "[I", Cond.methodLink RL 30 yX5_reach, Cond.instanceMethod yX5_reach, Cond.selects RX5 yX5_reach yX5_reach, Cond.code yX5_reach cX5_reach 4 (some .int), Cond.methodLink RL 31 yX4_fail, Cond.instanceMethod yX4_fail, Cond.selects RX4 yX4_fail yX4_fail, Cond.code yX4_fail cX4_fail 6 (some .int), Cond.methodLink RX4 83 yX4_areDays, Cond.static yX4_areDays]
def wsL_law_r9 : List Cond := [Cond.code yX4_areDays cX4_areDays 2 (some .boolean), Cond.methodLink RX4 94 yX4_isDay, Cond.static yX4_isDay, Cond.code yX4_isDay cX4_isDay 1 (some .boolean), Cond.methodLink RX4 86 yX1_putOut, Cond.instanceMethod yX1_putOut, Cond.selects RX1 yX1_putOut yX1_putOut, Cond.code yX1_putOut cX1_putOut 6 none, Cond.constantLong RX1 48 (-1), Cond.methodLink RX4 90 yX1_daysOut, Cond.instanceMethod yX1_daysOut, Cond.selects RX1 yX1_daysOut yX1_daysOut, Cond.code yX1_daysOut cX1_daysOut 2 (some .int), Cond.methodLink RX1 50 yJ13_bitCount_95d88, Cond.static yJ13_bitCount_95d88, Cond.initialized RJ13, Cond.code yJ13_bitCount_95d88 cJ13_bitCount_95d88 2 (some .int), Cond.constantLong RJ13 314 (6148914691236517205), Cond.constantLong RJ13 316 (3689348814741910323), Cond.constantLong RJ13 318 (1085102592571150095), Cond.methodLink RL 35 yX5_fail, Cond.instanceMethod yX5_fail, Cond.selects RX5 yX5_fail yX5_fail, Cond.code yX5_fail cX5_fail 6 (some .int)]
def wsL_law_r10 : List Cond := [Cond.methodLink RX5 84 yX5_isDay, Cond.static yX5_isDay, Cond.code yX5_isDay cX5_isDay 1 (some .boolean), Cond.methodLink RX5 87 yX5_daysOut, Cond.instanceMethod yX5_daysOut, Cond.selects RX5 yX5_daysOut yX5_daysOut, Cond.code yX5_daysOut cX5_daysOut 4 (some .int), Cond.methodLink RL 36 yX4_rain, Cond.instanceMethod yX4_rain, Cond.selects RX4 yX4_rain yX4_rain, Cond.code yX4_rain cX4_rain 5 (some .int), Cond.methodLink RX4 97 yX1_readingOf, Cond.instanceMethod yX1_readingOf, Cond.selects RX1 yX1_readingOf yX1_readingOf, Cond.code yX1_readingOf cX1_readingOf 3 (some .int), Cond.methodLink RX4 100 yX1_putReading, Cond.instanceMethod yX1_putReading, Cond.selects RX1 yX1_putReading yX1_putReading, Cond.code yX1_putReading cX1_putReading 4 none, Cond.methodLink RL 39 yX5_rain, Cond.instanceMethod yX5_rain, Cond.selects RX5 yX5_rain yX5_rain, Cond.code yX5_rain cX5_rain 5 (some .int), Cond.methodLink RL 40 yX4_of]
def wsL_law_r11 : List Cond := [Cond.instanceMethod yX4_of, Cond.selects RX4 yX4_of yX4_of, Cond.code yX4_of cX4_of 3 (some .int), Cond.methodLink RX4 104 yX1_daysRead, Cond.instanceMethod yX1_daysRead, Cond.selects RX1 yX1_daysRead yX1_daysRead, Cond.code yX1_daysRead cX1_daysRead 4 (some .int), Cond.methodLink RX1 56 yX1_readingOf, Cond.methodLink RL 43 yX5_of, Cond.instanceMethod yX5_of, Cond.selects RX5 yX5_of yX5_of, Cond.code yX5_of cX5_of 3 (some .int), Cond.methodLink RX5 90 yX5_daysRead, Cond.instanceMethod yX5_daysRead, Cond.selects RX5 yX5_daysRead yX5_daysRead, Cond.code yX5_daysRead cX5_daysRead 4 (some .int), Cond.methodLink RL 44 yX4_reading, Cond.instanceMethod yX4_reading, Cond.selects RX4 yX4_reading yX4_reading, Cond.code yX4_reading cX4_reading 3 (some .int), Cond.methodLink RL 47 yX5_reading, Cond.instanceMethod yX5_reading, Cond.selects RX5 yX5_reading yX5_reading, Cond.code yX5_reading cX5_reading 3 (some .int)]
def wsL_law_r12 : List Cond := [Cond.methodLink RL 48 yX4_working, Cond.instanceMethod yX4_working, Cond.selects RX4 yX4_working yX4_working, Cond.code yX4_working cX4_working 2 (some .int), Cond.methodLink RX4 107 yX1_workingOn, Cond.instanceMethod yX1_workingOn, Cond.selects RX1 yX1_workingOn yX1_workingOn, Cond.code yX1_workingOn cX1_workingOn 5 (some .int), Cond.static yX4_with, Cond.code yX4_with cX4_with 2 (some .int), Cond.methodLink RL 52 yX5_working, Cond.instanceMethod yX5_working, Cond.selects RX5 yX5_working yX5_working, Cond.code yX5_working cX5_working 2 (some .int), Cond.methodLink RX5 93 yX5_workingOn, Cond.instanceMethod yX5_workingOn, Cond.selects RX5 yX5_workingOn yX5_workingOn, Cond.code yX5_workingOn cX5_workingOn 4 (some .int), Cond.methodLink RL 53 yX4_owner, Cond.instanceMethod yX4_owner, Cond.selects RX4 yX4_owner yX4_owner, Cond.code yX4_owner cX4_owner 5 (some .int), Cond.methodLink RX4 110 yX1_hasPlot, Cond.instanceMethod yX1_hasPlot]
def wsL_law_r13 : List Cond := [Cond.selects RX1 yX1_hasPlot yX1_hasPlot, Cond.code yX1_hasPlot cX1_hasPlot 3 (some .boolean), Cond.methodLink RX4 113 yX3_lookUp, Cond.instanceMethod yX3_lookUp, Cond.selects RX3 yX3_lookUp yX3_lookUp, Cond.code yX3_lookUp cX3_lookUp 4 (some (.object "RainCells$Cells")), Cond.fieldLink RX3 39 "RainCells$Cells" "set" "I", Cond.methodLink RX3 42 yX3_putLast, Cond.instanceMethod yX3_putLast, Cond.selects RX3 yX3_putLast yX3_putLast, Cond.code yX3_putLast cX3_putLast 4 (some (.object "RainCells$Cells")), Cond.methodLink RX3 46 yX3_room, Cond.instanceMethod yX3_room, Cond.selects RX3 yX3_room yX3_room, Cond.code yX3_room cX3_room 1 (some (.object "RainCells$Cells")), Cond.methodLink RX3 50 yX0_workOut, Cond.instanceMethod yX0_workOut, Cond.selects RX0 yX0_workOut yX0_workOut, Cond.code yX0_workOut cX0_workOut 6 none, Cond.constant RX0 25 (1000000000), Cond.fieldLink RX0 26 "RainCells$Scene" "gauges" "I", Cond.fieldLink RX0 39 "RainCells$Scene" "reaches" "[I", Cond.static yX4_isIn, Cond.code yX4_isIn cX4_isIn 2 (some .boolean)]
def wsL_law_r14 : List Cond := [Cond.methodLink RX0 35 yX0_claim, Cond.instanceMethod yX0_claim, Cond.selects RX0 yX0_claim yX0_claim, Cond.code yX0_claim cX0_claim 13 none, Cond.fieldLink RX0 42 "RainCells$Scene" "placeX" "[I", Cond.fieldLink RX0 45 "RainCells$Scene" "placeY" "[I", Cond.fieldLink RX0 48 "RainCells$Scene" "rowTo" "[I", Cond.fieldLink RX0 51 "RainCells$Scene" "rowFrom" "[I", Cond.methodLink RX4 117 yX0_ownerAt, Cond.instanceMethod yX0_ownerAt, Cond.selects RX0 yX0_ownerAt yX0_ownerAt, Cond.code yX0_ownerAt cX0_ownerAt 3 (some .int), Cond.methodLink RL 56 yX5_owner, Cond.instanceMethod yX5_owner, Cond.selects RX5 yX5_owner yX5_owner, Cond.code yX5_owner cX5_owner 5 (some .int), Cond.methodLink RX5 112 yX5_isPlot, Cond.instanceMethod yX5_isPlot, Cond.selects RX5 yX5_isPlot yX5_isPlot, Cond.code yX5_isPlot cX5_isPlot 3 (some .boolean), Cond.methodLink RX5 115 yX5_lookUp, Cond.instanceMethod yX5_lookUp, Cond.selects RX5 yX5_lookUp yX5_lookUp, Cond.code yX5_lookUp cX5_lookUp 5 none]
def wsL_law_r15 : List Cond := [Cond.fieldLink RX5 103 "RainCellsModel" "found" "I", Cond.fieldLink RX5 106 "RainCellsModel" "worked" "I", Cond.fieldLink RX5 109 "RainCellsModel" "gone" "I", Cond.methodLink RX5 119 yX5_ownerOf, Cond.instanceMethod yX5_ownerOf, Cond.selects RX5 yX5_ownerOf yX5_ownerOf, Cond.code yX5_ownerOf cX5_ownerOf 8 (some .int), Cond.methodLink RX5 96 yX5_far, Cond.instanceMethod yX5_far, Cond.selects RX5 yX5_far yX5_far, Cond.code yX5_far cX5_far 4 (some .int), Cond.methodLink RX5 100 yX5_has, Cond.static yX5_has, Cond.code yX5_has cX5_has 2 (some .boolean), Cond.methodLink RL 57 yX4_cell, Cond.instanceMethod yX4_cell, Cond.selects RX4 yX4_cell yX4_cell, Cond.code yX4_cell cX4_cell 5 (some .int), Cond.fieldLink RX4 126 "RainCells$Cells" "plots" "[I", Cond.fieldLink RX4 135 "RainCells$Cells" "fars" "[I", Cond.methodLink RX4 122 yX4_cellsOn, Cond.instanceMethod yX4_cellsOn, Cond.selects RX4 yX4_cellsOn yX4_cellsOn, Cond.code yX4_cellsOn cX4_cellsOn 3 (some (.object "RainCells$Cells"))]
def wsL_law_r16 : List Cond := [Cond.fieldLink RX4 223 "RainCells$Store" "empty" "LRainCells$Cells;", Cond.methodLink RX4 129 yX4_upper, Cond.static yX4_upper, Cond.code yX4_upper cX4_upper 3 (some .int), Cond.methodLink RX4 220 yX4_commonDivisor, Cond.static yX4_commonDivisor, Cond.code yX4_commonDivisor cX4_commonDivisor 6 (some .int), Cond.methodLink RX4 132 yX4_lower, Cond.static yX4_lower, Cond.code yX4_lower cX4_lower 3 (some .int), Cond.methodLink RL 60 yX5_cell, Cond.instanceMethod yX5_cell, Cond.selects RX5 yX5_cell yX5_cell, Cond.code yX5_cell cX5_cell 6 (some .int), Cond.methodLink RX5 125 yX5_size, Cond.instanceMethod yX5_size, Cond.selects RX5 yX5_size yX5_size, Cond.code yX5_size cX5_size 5 (some .int), Cond.methodLink RX5 128 yX5_farOf, Cond.instanceMethod yX5_farOf, Cond.selects RX5 yX5_farOf yX5_farOf, Cond.code yX5_farOf cX5_farOf 5 (some .int), Cond.methodLink RX5 131 yX5_part, Cond.static yX5_part]
def wsL_law_r17 : List Cond := [Cond.code yX5_part cX5_part 4 (some .int), Cond.methodLink RX5 122 yX5_common, Cond.static yX5_common, Cond.code yX5_common cX5_common 6 (some .int), Cond.methodLink RL 61 yX4_border, Cond.instanceMethod yX4_border, Cond.selects RX4 yX4_border yX4_border, Cond.code yX4_border cX4_border 4 (some .int), Cond.methodLink RX4 138 yX0_sidesTo, Cond.instanceMethod yX0_sidesTo, Cond.selects RX0 yX0_sidesTo yX0_sidesTo, Cond.code yX0_sidesTo cX0_sidesTo 6 (some .int), Cond.methodLink RX0 57 yX0_ownerAt, Cond.methodLink RL 64 yX5_border, Cond.instanceMethod yX5_border, Cond.selects RX5 yX5_border yX5_border, Cond.code yX5_border cX5_border 5 (some .int), Cond.methodLink RX5 141 yX5_sides, Cond.instanceMethod yX5_sides, Cond.selects RX5 yX5_sides yX5_sides, Cond.code yX5_sides cX5_sides 6 (some .int), Cond.methodLink RX5 134 yX5_at, Cond.instanceMethod yX5_at, Cond.selects RX5 yX5_at yX5_at]
def wsL_law_r18 : List Cond := [Cond.code yX5_at cX5_at 4 (some .int), Cond.methodLink RX5 137 yX5_touching, Cond.instanceMethod yX5_touching, Cond.selects RX5 yX5_touching yX5_touching, Cond.code yX5_touching cX5_touching 5 (some .int), Cond.methodLink RL 65 yX4_neighbours, Cond.instanceMethod yX4_neighbours, Cond.selects RX4 yX4_neighbours yX4_neighbours, Cond.code yX4_neighbours cX4_neighbours 3 (some .int), Cond.methodLink RX4 141 yX0_touching, Cond.instanceMethod yX0_touching, Cond.selects RX0 yX0_touching yX0_touching, Cond.code yX0_touching cX0_touching 5 (some .int), Cond.methodLink RX0 61 yX0_ownersAt, Cond.instanceMethod yX0_ownersAt, Cond.selects RX0 yX0_ownersAt yX0_ownersAt, Cond.code yX0_ownersAt cX0_ownersAt 4 (some .int), Cond.static yX4_without, Cond.code yX4_without cX4_without 2 (some .int), Cond.methodLink RL 68 yX5_neighbours, Cond.instanceMethod yX5_neighbours, Cond.selects RX5 yX5_neighbours yX5_neighbours, Cond.code yX5_neighbours cX5_neighbours 6 (some .int), Cond.methodLink RL 69 yX4_mean]
def wsL_law_r19 : List Cond := [Cond.instanceMethod yX4_mean, Cond.selects RX4 yX4_mean yX4_mean, Cond.code yX4_mean cX4_mean 3 (some .int), Cond.methodLink RX4 144 yX4_isPart, Cond.static yX4_isPart, Cond.code yX4_isPart cX4_isPart 1 (some .boolean), Cond.methodLink RX4 147 yX4_hasMean, Cond.instanceMethod yX4_hasMean, Cond.selects RX4 yX4_hasMean yX4_hasMean, Cond.code yX4_hasMean cX4_hasMean 2 (some .boolean), Cond.methodLink RX4 150 yX4_rainOn, Cond.instanceMethod yX4_rainOn, Cond.selects RX4 yX4_rainOn yX4_rainOn, Cond.code yX4_rainOn cX4_rainOn 5 (some .int), Cond.methodLink RX4 153 yX4_part, Cond.static yX4_part, Cond.code yX4_part cX4_part 3 (some .int), Cond.methodLink RL 72 yX5_mean, Cond.instanceMethod yX5_mean, Cond.selects RX5 yX5_mean yX5_mean, Cond.code yX5_mean cX5_mean 3 (some .int), Cond.methodLink RX5 144 yX5_hasMean, Cond.instanceMethod yX5_hasMean, Cond.selects RX5 yX5_hasMean yX5_hasMean]
def wsL_law_r20 : List Cond := [Cond.code yX5_hasMean cX5_hasMean 2 (some .boolean), Cond.methodLink RX5 147 yX5_water, Cond.instanceMethod yX5_water, Cond.selects RX5 yX5_water yX5_water, Cond.code yX5_water cX5_water 5 (some .int), Cond.methodLink RL 73 yX4_total, Cond.instanceMethod yX4_total, Cond.selects RX4 yX4_total yX4_total, Cond.code yX4_total cX4_total 7 (some .int), Cond.methodLink RL 76 yX5_total, Cond.instanceMethod yX5_total, Cond.selects RX5 yX5_total yX5_total, Cond.code yX5_total cX5_total 7 (some .int), Cond.methodLink RL 77 yX4_spread, Cond.instanceMethod yX4_spread, Cond.selects RX4 yX4_spread yX4_spread, Cond.code yX4_spread cX4_spread 3 (some .int), Cond.methodLink RX4 156 yX0_farOfAll, Cond.instanceMethod yX0_farOfAll, Cond.selects RX0 yX0_farOfAll yX0_farOfAll, Cond.code yX0_farOfAll cX0_farOfAll 3 (some .int), Cond.methodLink RL 80 yX5_spread, Cond.instanceMethod yX5_spread, Cond.selects RX5 yX5_spread yX5_spread]
def wsL_law_r21 : List Cond := [Cond.code yX5_spread cX5_spread 5 (some .int), Cond.methodLink RL 81 yX4_next, Cond.instanceMethod yX4_next, Cond.selects RX4 yX4_next yX4_next, Cond.code yX4_next cX4_next 3 (some .int), Cond.fieldLink RX4 163 "RainCells$Search" "least" "I", Cond.constant RX4 166 (1000000000), Cond.fieldLink RX4 167 "RainCells$Search" "leastX" "I", Cond.fieldLink RX4 170 "RainCells$Search" "leastY" "I", Cond.methodLink RX4 159 yX2_run, Cond.instanceMethod yX2_run, Cond.selects RX2 yX2_run yX2_run, Cond.code yX2_run cX2_run 5 none, Cond.fieldLink RX2 50 "RainCells$Scene" "rowFrom" "[I", Cond.fieldLink RX2 55 "RainCells$Scene" "rowTo" "[I", Cond.methodLink RX2 42 yX0_workOut, Cond.methodLink RX2 46 yX2_readRow, Cond.instanceMethod yX2_readRow, Cond.selects RX2 yX2_readRow yX2_readRow, Cond.code yX2_readRow cX2_readRow 6 none, Cond.constant RX2 66 (-1000000000), Cond.fieldLink RX2 67 "RainCells$Cells" "owners" "[I", Cond.fieldLink RX2 70 "RainCells$Scene" "reaches" "[I", Cond.methodLink RX2 73 Lib.Math.max.name]
def wsL_law_r22 : List Cond := [Cond.static Lib.Math.max.name, Cond.initialized "java/lang/Math", Cond.code Lib.Math.max.name Lib.Math.max.code 2 (some .int), Cond.methodLink RX2 58 yX1_gaugeAt, Cond.methodLink RX2 62 yX2_tryAt, Cond.instanceMethod yX2_tryAt, Cond.selects RX2 yX2_tryAt yX2_tryAt, Cond.code yX2_tryAt cX2_tryAt 7 none, Cond.methodLink RX2 78 yX2_farOfRow, Cond.instanceMethod yX2_farOfRow, Cond.selects RX2 yX2_farOfRow yX2_farOfRow, Cond.code yX2_farOfRow cX2_farOfRow 10 (some .int), Cond.methodLink RL 84 yX5_next, Cond.instanceMethod yX5_next, Cond.selects RX5 yX5_next yX5_next, Cond.code yX5_next cX5_next 8 (some .int), Cond.methodLink RX5 150 yX5_spreadWith, Cond.instanceMethod yX5_spreadWith, Cond.selects RX5 yX5_spreadWith yX5_spreadWith, Cond.code yX5_spreadWith cX5_spreadWith 10 (some .int), Cond.methodLink RL 85 yX4_shared, Cond.instanceMethod yX4_shared, Cond.selects RX4 yX4_shared yX4_shared, Cond.code yX4_shared cX4_shared 7 (some .int)]
def wsL_law_r23 : List Cond := [Cond.methodLink RX4 173 yX4_without, Cond.methodLink RX4 176 yX4_with, Cond.methodLink RX4 179 yX0_inBoth, Cond.instanceMethod yX0_inBoth, Cond.selects RX0 yX0_inBoth yX0_inBoth, Cond.code yX0_inBoth cX0_inBoth 6 (some .int), Cond.methodLink RL 88 yX5_shared, Cond.instanceMethod yX5_shared, Cond.selects RX5 yX5_shared yX5_shared, Cond.code yX5_shared cX5_shared 5 (some .int), Cond.methodLink RX5 153 yX5_without, Cond.static yX5_without, Cond.code yX5_without cX5_without 2 (some .int), Cond.methodLink RX5 156 yX5_lookUpBoth, Cond.instanceMethod yX5_lookUpBoth, Cond.selects RX5 yX5_lookUpBoth yX5_lookUpBoth, Cond.code yX5_lookUpBoth cX5_lookUpBoth 3 none, Cond.methodLink RX5 160 yX5_sharedOf, Cond.instanceMethod yX5_sharedOf, Cond.selects RX5 yX5_sharedOf yX5_sharedOf, Cond.code yX5_sharedOf cX5_sharedOf 8 (some .int), Cond.methodLink RL 89 yX4_estimate, Cond.instanceMethod yX4_estimate, Cond.selects RX4 yX4_estimate yX4_estimate]
def wsL_law_r24 : List Cond := [Cond.code yX4_estimate cX4_estimate 7 (some .int), Cond.methodLink RX4 183 yX4_rainOfOthers, Cond.instanceMethod yX4_rainOfOthers, Cond.selects RX4 yX4_rainOfOthers yX4_rainOfOthers, Cond.code yX4_rainOfOthers cX4_rainOfOthers 8 (some .int), Cond.fieldLink RX4 227 "RainCells$Cells" "owners" "[I", Cond.methodLink RL 92 yX5_estimate, Cond.instanceMethod yX5_estimate, Cond.selects RX5 yX5_estimate yX5_estimate, Cond.code yX5_estimate cX5_estimate 6 (some .int), Cond.methodLink RX5 163 yX5_sharedWater, Cond.instanceMethod yX5_sharedWater, Cond.selects RX5 yX5_sharedWater yX5_sharedWater, Cond.code yX5_sharedWater cX5_sharedWater 6 (some .int), Cond.methodLink RL 93 yX4_doubt, Cond.instanceMethod yX4_doubt, Cond.selects RX4 yX4_doubt yX4_doubt, Cond.code yX4_doubt cX4_doubt 6 (some .int), Cond.methodLink RX4 187 yX4_isIn, Cond.methodLink RX4 190 yX4_isDoubted, Cond.instanceMethod yX4_isDoubted, Cond.selects RX4 yX4_isDoubted yX4_isDoubted, Cond.code yX4_isDoubted cX4_isDoubted 9 (some .boolean), Cond.methodLink RX4 230 Lib.Math.abs.name]
def wsL_law_r25 : List Cond := [Cond.static Lib.Math.abs.name, Cond.code Lib.Math.abs.name Lib.Math.abs.code 1 (some .int), Cond.methodLink RL 96 yX5_doubt, Cond.instanceMethod yX5_doubt, Cond.selects RX5 yX5_doubt yX5_doubt, Cond.code yX5_doubt cX5_doubt 8 (some .int), Cond.methodLink RL 97 yX4_kept, Cond.instanceMethod yX4_kept, Cond.selects RX4 yX4_kept yX4_kept, Cond.code yX4_kept cX4_kept 2 (some .int), Cond.fieldLink RX4 194 "RainCells$Store" "size" "I", Cond.fieldLink RX4 197 "RainCells$Store" "cells" "[LRainCells$Cells;", Cond.fieldLink RX4 201 "RainCells$Cells" "set" "I", Cond.methodLink RL 100 yX5_kept, Cond.instanceMethod yX5_kept, Cond.selects RX5 yX5_kept yX5_kept, Cond.code yX5_kept cX5_kept 2 (some .int), Cond.methodLink RL 101 yX4_image, Cond.instanceMethod yX4_image, Cond.selects RX4 yX4_image yX4_image, Cond.code yX4_image cX4_image 2 (some .int), Cond.methodLink RX4 204 yX1_copyFrom, Cond.instanceMethod yX1_copyFrom, Cond.selects RX1 yX1_copyFrom yX1_copyFrom]
def wsL_law_r26 : List Cond := [Cond.code yX1_copyFrom cX1_copyFrom 2 none, Cond.methodLink RX1 38 arraycopyName, Cond.native arraycopyName, Cond.static arraycopyName, Cond.initialized "java/lang/System", Cond.methodLink RL 104 yX5_image, Cond.instanceMethod yX5_image, Cond.selects RX5 yX5_image yX5_image, Cond.code yX5_image cX5_image 3 (some .int), Cond.methodLink RL 105 yX4_restore, Cond.instanceMethod yX4_restore, Cond.selects RX4 yX4_restore yX4_restore, Cond.code yX4_restore cX4_restore 2 (some .int), Cond.methodLink RL 108 yX5_restore, Cond.instanceMethod yX5_restore, Cond.selects RX5 yX5_restore yX5_restore, Cond.code yX5_restore cX5_restore 3 (some .int), Cond.methodLink RL 109 yX4_count, Cond.instanceMethod yX4_count, Cond.selects RX4 yX4_count yX4_count, Cond.code yX4_count cX4_count 3 (some .int), Cond.fieldLink RX4 211 "RainCells$Store" "found" "I", Cond.fieldLink RX4 214 "RainCells$Store" "workedOut" "I", Cond.fieldLink RX4 217 "RainCells$Store" "replaced" "I"]
def wsL_law_r27 : List Cond := [Cond.methodLink RX4 208 yX1_rowHasPlots, Cond.methodLink RL 112 yX5_count, Cond.instanceMethod yX5_count, Cond.selects RX5 yX5_count yX5_count, Cond.code yX5_count cX5_count 2 (some .int)]
def wsL_law : List Cond := (wsL_law_r1 ++ (wsL_law_r2 ++ (wsL_law_r3 ++ (wsL_law_r4 ++ (wsL_law_r5 ++ (wsL_law_r6 ++ (wsL_law_r7 ++ (wsL_law_r8 ++ (wsL_law_r9 ++ (wsL_law_r10 ++ (wsL_law_r11 ++ (wsL_law_r12 ++ (wsL_law_r13 ++ (wsL_law_r14 ++ (wsL_law_r15 ++ (wsL_law_r16 ++ (wsL_law_r17 ++ (wsL_law_r18 ++ (wsL_law_r19 ++ (wsL_law_r20 ++ (wsL_law_r21 ++ (wsL_law_r22 ++ (wsL_law_r23 ++ (wsL_law_r24 ++ (wsL_law_r25 ++ (wsL_law_r26 ++ wsL_law_r27)))))))))))))))))))))))))) ++ wsX40 ++ wsX50 ++ wsX10 ++ wsX30 ++ wsX20 ++ wsX00 ++ ([] : List Cond)
theorem inlX0 : ∀ w ∈ wsX00, w ∈ wsL_law := fun _ h => List.mem_append_left _ (List.mem_append_right _ h)
theorem inlX1 : ∀ w ∈ wsX10, w ∈ wsL_law := fun _ h => List.mem_append_left _ (List.mem_append_left _ (List.mem_append_left _ (List.mem_append_left _ (List.mem_append_right _ h))))
theorem inlX2 : ∀ w ∈ wsX20, w ∈ wsL_law := fun _ h => List.mem_append_left _ (List.mem_append_left _ (List.mem_append_right _ h))
theorem inlX3 : ∀ w ∈ wsX30, w ∈ wsL_law := fun _ h => List.mem_append_left _ (List.mem_append_left _ (List.mem_append_left _ (List.mem_append_right _ h)))
theorem inlX4 : ∀ w ∈ wsX40, w ∈ wsL_law := fun _ h => List.mem_append_left _ (List.mem_append_left _ (List.mem_append_left _ (List.mem_append_left _ (List.mem_append_left _ (List.mem_append_left _ (List.mem_append_right _ h))))))
theorem inlX5 : ∀ w ∈ wsX50, w ∈ wsL_law := fun _ h => List.mem_append_left _ (List.mem_append_left _ (List.mem_append_left _ (List.mem_append_left _ (List.mem_append_left _ (List.mem_append_right _ h)))))
abbrev vwCl : List vw_C := [(RX0, TX0, 4), (RX1, TX1, 8), (RX2, TX2, 8), (RX3, TX3, 7), (RX4, TX4, 5), (RX5, TX5, 19)]
end
section
theorem dX0_init_0 : decode cX0_init 0 = .ok (.aload_n 0, 1) := by decide +kernel
theorem dX0_init_1 : decode cX0_init 1 = .ok (.invokespecial 3, 3) := by decide +kernel
theorem dX0_init_4 : decode cX0_init 4 = .ok (.aload_n 0, 1) := by decide +kernel
theorem dX0_init_5 : decode cX0_init 5 = .ok (.iconst 0, 1) := by decide +kernel
theorem dX0_init_6 : decode cX0_init 6 = .ok (.putfield 9, 3) := by decide +kernel
theorem dX0_init_9 : decode cX0_init 9 = .ok (.aload_n 0, 1) := by decide +kernel
theorem dX0_init_10 : decode cX0_init 10 = .ok (.sipush 256, 3) := by decide +kernel
theorem dX0_init_13 : decode cX0_init 13 = .ok (.newarray .int, 2) := by decide +kernel
theorem dX0_init_15 : decode cX0_init 15 = .ok (.putfield 15, 3) := by decide +kernel
theorem dX0_init_18 : decode cX0_init 18 = .ok (.aload_n 0, 1) := by decide +kernel
theorem dX0_init_19 : decode cX0_init 19 = .ok (.bipush 8, 2) := by decide +kernel
theorem dX0_init_21 : decode cX0_init 21 = .ok (.newarray .int, 2) := by decide +kernel
theorem dX0_init_23 : decode cX0_init 23 = .ok (.putfield 19, 3) := by decide +kernel
theorem dX0_init_26 : decode cX0_init 26 = .ok (.aload_n 0, 1) := by decide +kernel
theorem dX0_init_27 : decode cX0_init 27 = .ok (.bipush 8, 2) := by decide +kernel
theorem dX0_init_29 : decode cX0_init 29 = .ok (.newarray .int, 2) := by decide +kernel
theorem dX0_init_31 : decode cX0_init 31 = .ok (.putfield 22, 3) := by decide +kernel
theorem dX0_init_34 : decode cX0_init 34 = .ok (.iconst 0, 1) := by decide +kernel
theorem dX0_init_35 : decode cX0_init 35 = .ok (.istore_n 1, 1) := by decide +kernel
theorem dX0_init_36 : decode cX0_init 36 = .ok (.iload_n 1, 1) := by decide +kernel
theorem dX0_init_37 : decode cX0_init 37 = .ok (.sipush 256, 3) := by decide +kernel
theorem dX0_init_40 : decode cX0_init 40 = .ok (.if_icmp .ge 16, 3) := by decide +kernel
theorem dX0_init_43 : decode cX0_init 43 = .ok (.aload_n 0, 1) := by decide +kernel
theorem dX0_init_44 : decode cX0_init 44 = .ok (.getfield 15, 3) := by decide +kernel
theorem dX0_init_47 : decode cX0_init 47 = .ok (.iload_n 1, 1) := by decide +kernel
theorem dX0_init_48 : decode cX0_init 48 = .ok (.iconst (-1), 1) := by decide +kernel
theorem dX0_init_49 : decode cX0_init 49 = .ok (.iastore, 1) := by decide +kernel
theorem dX0_init_50 : decode cX0_init 50 = .ok (.iinc 1 1, 3) := by decide +kernel
theorem dX0_init_53 : decode cX0_init 53 = .ok (.goto (-17), 3) := by decide +kernel
theorem dX0_init_56 : decode cX0_init 56 = .ok (.return_, 1) := by decide +kernel
set_option maxRecDepth 20000 in
theorem ggX0_workOut_X4_isIn : GoodIn wsX0_workOut wsX4_isIn := goodIn_r _ [10] (by decide +kernel) (by decide +kernel)
set_option maxRecDepth 20000 in
theorem gX0_workOut_X4_isIn_n31 : GoodIn wsX0_workOut (wsX4_isIn) := ggX0_workOut_X4_isIn
set_option maxRecDepth 20000 in
theorem ggX0_workOut_X0_claim : GoodIn wsX0_workOut wsX0_claim := goodIn_r _ [15, 16, 17, 7, 18, 19, 2, 24, 25, 26, 27, 28, 29, 30, 31, 20, 21, 22, 23] (by decide +kernel) (by decide +kernel)
set_option maxRecDepth 20000 in
theorem gX0_workOut_X0_claim : GoodIn wsX0_workOut (wsV RX0 35 RX0 yX0_claim wsX0_claim) := goodIn_app (goodIn_of _ (by decide +kernel)) ggX0_workOut_X0_claim
theorem dX0_workOut_0 : decode cX0_workOut 0 = .ok (.aload_n 0, 1) := by decide +kernel
theorem dX0_workOut_1 : decode cX0_workOut 1 = .ok (.iload_n 2, 1) := by decide +kernel
theorem dX0_workOut_2 : decode cX0_workOut 2 = .ok (.putfield 9, 3) := by decide +kernel
theorem dX0_workOut_5 : decode cX0_workOut 5 = .ok (.iconst 0, 1) := by decide +kernel
theorem dX0_workOut_6 : decode cX0_workOut 6 = .ok (.istore 4, 2) := by decide +kernel
theorem dX0_workOut_8 : decode cX0_workOut 8 = .ok (.iload 4, 2) := by decide +kernel
theorem dX0_workOut_10 : decode cX0_workOut 10 = .ok (.sipush 256, 3) := by decide +kernel
theorem dX0_workOut_13 : decode cX0_workOut 13 = .ok (.if_icmp .ge 23, 3) := by decide +kernel
theorem dX0_workOut_16 : decode cX0_workOut 16 = .ok (.aload_n 0, 1) := by decide +kernel
theorem dX0_workOut_17 : decode cX0_workOut 17 = .ok (.getfield 15, 3) := by decide +kernel
theorem dX0_workOut_20 : decode cX0_workOut 20 = .ok (.iload 4, 2) := by decide +kernel
theorem dX0_workOut_22 : decode cX0_workOut 22 = .ok (.iconst (-1), 1) := by decide +kernel
theorem dX0_workOut_23 : decode cX0_workOut 23 = .ok (.iastore, 1) := by decide +kernel
theorem dX0_workOut_24 : decode cX0_workOut 24 = .ok (.aload_n 3, 1) := by decide +kernel
theorem dX0_workOut_25 : decode cX0_workOut 25 = .ok (.iload 4, 2) := by decide +kernel
theorem dX0_workOut_27 : decode cX0_workOut 27 = .ok (.ldc 25, 2) := by decide +kernel
theorem dX0_workOut_29 : decode cX0_workOut 29 = .ok (.iastore, 1) := by decide +kernel
theorem dX0_workOut_30 : decode cX0_workOut 30 = .ok (.iinc 4 1, 3) := by decide +kernel
theorem dX0_workOut_33 : decode cX0_workOut 33 = .ok (.goto (-25), 3) := by decide +kernel
theorem dX0_workOut_36 : decode cX0_workOut 36 = .ok (.iconst 0, 1) := by decide +kernel
theorem dX0_workOut_37 : decode cX0_workOut 37 = .ok (.istore 4, 2) := by decide +kernel
theorem dX0_workOut_39 : decode cX0_workOut 39 = .ok (.iload 4, 2) := by decide +kernel
theorem dX0_workOut_41 : decode cX0_workOut 41 = .ok (.aload_n 1, 1) := by decide +kernel
theorem dX0_workOut_42 : decode cX0_workOut 42 = .ok (.getfield 26, 3) := by decide +kernel
theorem dX0_workOut_45 : decode cX0_workOut 45 = .ok (.if_icmp .ge 29, 3) := by decide +kernel
theorem dX0_workOut_48 : decode cX0_workOut 48 = .ok (.aload_n 0, 1) := by decide +kernel
theorem dX0_workOut_49 : decode cX0_workOut 49 = .ok (.getfield 9, 3) := by decide +kernel
theorem dX0_workOut_52 : decode cX0_workOut 52 = .ok (.iload 4, 2) := by decide +kernel
theorem dX0_workOut_54 : decode cX0_workOut 54 = .ok (.invokestatic 31, 3) := by decide +kernel
theorem dX0_workOut_57 : decode cX0_workOut 57 = .ok (.ifCond .eq 11, 3) := by decide +kernel
theorem dX0_workOut_60 : decode cX0_workOut 60 = .ok (.aload_n 0, 1) := by decide +kernel
theorem dX0_workOut_61 : decode cX0_workOut 61 = .ok (.aload_n 1, 1) := by decide +kernel
theorem dX0_workOut_62 : decode cX0_workOut 62 = .ok (.iload 4, 2) := by decide +kernel
theorem dX0_workOut_64 : decode cX0_workOut 64 = .ok (.aload_n 3, 1) := by decide +kernel
theorem dX0_workOut_65 : decode cX0_workOut 65 = .ok (.invokevirtual 35, 3) := by decide +kernel
theorem dX0_workOut_68 : decode cX0_workOut 68 = .ok (.iinc 4 1, 3) := by decide +kernel
theorem dX0_workOut_71 : decode cX0_workOut 71 = .ok (.goto (-32), 3) := by decide +kernel
theorem dX0_workOut_74 : decode cX0_workOut 74 = .ok (.iconst 0, 1) := by decide +kernel
theorem dX0_workOut_75 : decode cX0_workOut 75 = .ok (.istore 4, 2) := by decide +kernel
theorem dX0_workOut_77 : decode cX0_workOut 77 = .ok (.iload 4, 2) := by decide +kernel
theorem dX0_workOut_79 : decode cX0_workOut 79 = .ok (.bipush 8, 2) := by decide +kernel
theorem dX0_workOut_81 : decode cX0_workOut 81 = .ok (.if_icmp .ge 25, 3) := by decide +kernel
theorem dX0_workOut_84 : decode cX0_workOut 84 = .ok (.aload_n 0, 1) := by decide +kernel
theorem dX0_workOut_85 : decode cX0_workOut 85 = .ok (.getfield 19, 3) := by decide +kernel
theorem dX0_workOut_88 : decode cX0_workOut 88 = .ok (.iload 4, 2) := by decide +kernel
theorem dX0_workOut_90 : decode cX0_workOut 90 = .ok (.iconst 0, 1) := by decide +kernel
theorem dX0_workOut_91 : decode cX0_workOut 91 = .ok (.iastore, 1) := by decide +kernel
theorem dX0_workOut_92 : decode cX0_workOut 92 = .ok (.aload_n 0, 1) := by decide +kernel
theorem dX0_workOut_93 : decode cX0_workOut 93 = .ok (.getfield 22, 3) := by decide +kernel
theorem dX0_workOut_96 : decode cX0_workOut 96 = .ok (.iload 4, 2) := by decide +kernel
theorem dX0_workOut_98 : decode cX0_workOut 98 = .ok (.iconst 0, 1) := by decide +kernel
theorem dX0_workOut_99 : decode cX0_workOut 99 = .ok (.iastore, 1) := by decide +kernel
theorem dX0_workOut_100 : decode cX0_workOut 100 = .ok (.iinc 4 1, 3) := by decide +kernel
theorem dX0_workOut_103 : decode cX0_workOut 103 = .ok (.goto (-26), 3) := by decide +kernel
theorem dX0_workOut_106 : decode cX0_workOut 106 = .ok (.iconst 0, 1) := by decide +kernel
theorem dX0_workOut_107 : decode cX0_workOut 107 = .ok (.istore 4, 2) := by decide +kernel
theorem dX0_workOut_109 : decode cX0_workOut 109 = .ok (.iload 4, 2) := by decide +kernel
theorem dX0_workOut_111 : decode cX0_workOut 111 = .ok (.sipush 256, 3) := by decide +kernel
theorem dX0_workOut_114 : decode cX0_workOut 114 = .ok (.if_icmp .ge 57, 3) := by decide +kernel
theorem dX0_workOut_117 : decode cX0_workOut 117 = .ok (.aload_n 0, 1) := by decide +kernel
theorem dX0_workOut_118 : decode cX0_workOut 118 = .ok (.getfield 15, 3) := by decide +kernel
theorem dX0_workOut_121 : decode cX0_workOut 121 = .ok (.iload 4, 2) := by decide +kernel
theorem dX0_workOut_123 : decode cX0_workOut 123 = .ok (.iaload, 1) := by decide +kernel
theorem dX0_workOut_124 : decode cX0_workOut 124 = .ok (.istore 5, 2) := by decide +kernel
theorem dX0_workOut_126 : decode cX0_workOut 126 = .ok (.iload 5, 2) := by decide +kernel
theorem dX0_workOut_128 : decode cX0_workOut 128 = .ok (.iconst (-1), 1) := by decide +kernel
theorem dX0_workOut_129 : decode cX0_workOut 129 = .ok (.if_icmp .eq 36, 3) := by decide +kernel
theorem dX0_workOut_132 : decode cX0_workOut 132 = .ok (.aload_n 0, 1) := by decide +kernel
theorem dX0_workOut_133 : decode cX0_workOut 133 = .ok (.getfield 19, 3) := by decide +kernel
theorem dX0_workOut_136 : decode cX0_workOut 136 = .ok (.iload 5, 2) := by decide +kernel
theorem dX0_workOut_138 : decode cX0_workOut 138 = .ok (.dup2, 1) := by decide +kernel
theorem dX0_workOut_139 : decode cX0_workOut 139 = .ok (.iaload, 1) := by decide +kernel
theorem dX0_workOut_140 : decode cX0_workOut 140 = .ok (.iconst 1, 1) := by decide +kernel
theorem dX0_workOut_141 : decode cX0_workOut 141 = .ok (.iadd, 1) := by decide +kernel
theorem dX0_workOut_142 : decode cX0_workOut 142 = .ok (.iastore, 1) := by decide +kernel
theorem dX0_workOut_143 : decode cX0_workOut 143 = .ok (.aload_n 0, 1) := by decide +kernel
theorem dX0_workOut_144 : decode cX0_workOut 144 = .ok (.getfield 22, 3) := by decide +kernel
theorem dX0_workOut_147 : decode cX0_workOut 147 = .ok (.iload 5, 2) := by decide +kernel
theorem dX0_workOut_149 : decode cX0_workOut 149 = .ok (.dup2, 1) := by decide +kernel
theorem dX0_workOut_150 : decode cX0_workOut 150 = .ok (.iaload, 1) := by decide +kernel
theorem dX0_workOut_151 : decode cX0_workOut 151 = .ok (.aload_n 3, 1) := by decide +kernel
theorem dX0_workOut_152 : decode cX0_workOut 152 = .ok (.iload 4, 2) := by decide +kernel
theorem dX0_workOut_154 : decode cX0_workOut 154 = .ok (.iaload, 1) := by decide +kernel
theorem dX0_workOut_155 : decode cX0_workOut 155 = .ok (.aload_n 1, 1) := by decide +kernel
theorem dX0_workOut_156 : decode cX0_workOut 156 = .ok (.getfield 39, 3) := by decide +kernel
theorem dX0_workOut_159 : decode cX0_workOut 159 = .ok (.iload 5, 2) := by decide +kernel
theorem dX0_workOut_161 : decode cX0_workOut 161 = .ok (.iaload, 1) := by decide +kernel
theorem dX0_workOut_162 : decode cX0_workOut 162 = .ok (.iadd, 1) := by decide +kernel
theorem dX0_workOut_163 : decode cX0_workOut 163 = .ok (.iadd, 1) := by decide +kernel
theorem dX0_workOut_164 : decode cX0_workOut 164 = .ok (.iastore, 1) := by decide +kernel
theorem dX0_workOut_165 : decode cX0_workOut 165 = .ok (.iinc 4 1, 3) := by decide +kernel
theorem dX0_workOut_168 : decode cX0_workOut 168 = .ok (.goto (-59), 3) := by decide +kernel
theorem dX0_workOut_171 : decode cX0_workOut 171 = .ok (.return_, 1) := by decide +kernel
theorem dX0_claim_0 : decode cX0_claim 0 = .ok (.aload_n 1, 1) := by decide +kernel
theorem dX0_claim_1 : decode cX0_claim 1 = .ok (.getfield 42, 3) := by decide +kernel
theorem dX0_claim_4 : decode cX0_claim 4 = .ok (.iload_n 2, 1) := by decide +kernel
theorem dX0_claim_5 : decode cX0_claim 5 = .ok (.iaload, 1) := by decide +kernel
theorem dX0_claim_6 : decode cX0_claim 6 = .ok (.istore 4, 2) := by decide +kernel
theorem dX0_claim_8 : decode cX0_claim 8 = .ok (.iconst 0, 1) := by decide +kernel
theorem dX0_claim_9 : decode cX0_claim 9 = .ok (.istore 5, 2) := by decide +kernel
theorem dX0_claim_11 : decode cX0_claim 11 = .ok (.iload 5, 2) := by decide +kernel
theorem dX0_claim_13 : decode cX0_claim 13 = .ok (.bipush 16, 2) := by decide +kernel
theorem dX0_claim_15 : decode cX0_claim 15 = .ok (.if_icmp .ge 115, 3) := by decide +kernel
theorem dX0_claim_18 : decode cX0_claim 18 = .ok (.iload 5, 2) := by decide +kernel
theorem dX0_claim_20 : decode cX0_claim 20 = .ok (.aload_n 1, 1) := by decide +kernel
theorem dX0_claim_21 : decode cX0_claim 21 = .ok (.getfield 45, 3) := by decide +kernel
theorem dX0_claim_24 : decode cX0_claim 24 = .ok (.iload_n 2, 1) := by decide +kernel
theorem dX0_claim_25 : decode cX0_claim 25 = .ok (.iaload, 1) := by decide +kernel
theorem dX0_claim_26 : decode cX0_claim 26 = .ok (.isub, 1) := by decide +kernel
theorem dX0_claim_27 : decode cX0_claim 27 = .ok (.istore 6, 2) := by decide +kernel
theorem dX0_claim_29 : decode cX0_claim 29 = .ok (.iload 6, 2) := by decide +kernel
theorem dX0_claim_31 : decode cX0_claim 31 = .ok (.iload 6, 2) := by decide +kernel
theorem dX0_claim_33 : decode cX0_claim 33 = .ok (.imul, 1) := by decide +kernel
theorem dX0_claim_34 : decode cX0_claim 34 = .ok (.aload_n 1, 1) := by decide +kernel
theorem dX0_claim_35 : decode cX0_claim 35 = .ok (.getfield 39, 3) := by decide +kernel
theorem dX0_claim_38 : decode cX0_claim 38 = .ok (.iload_n 2, 1) := by decide +kernel
theorem dX0_claim_39 : decode cX0_claim 39 = .ok (.iaload, 1) := by decide +kernel
theorem dX0_claim_40 : decode cX0_claim 40 = .ok (.isub, 1) := by decide +kernel
theorem dX0_claim_41 : decode cX0_claim 41 = .ok (.istore 7, 2) := by decide +kernel
theorem dX0_claim_43 : decode cX0_claim 43 = .ok (.aload_n 1, 1) := by decide +kernel
theorem dX0_claim_44 : decode cX0_claim 44 = .ok (.getfield 48, 3) := by decide +kernel
theorem dX0_claim_47 : decode cX0_claim 47 = .ok (.iload 5, 2) := by decide +kernel
theorem dX0_claim_49 : decode cX0_claim 49 = .ok (.iaload, 1) := by decide +kernel
theorem dX0_claim_50 : decode cX0_claim 50 = .ok (.istore 8, 2) := by decide +kernel
theorem dX0_claim_52 : decode cX0_claim 52 = .ok (.aload_n 1, 1) := by decide +kernel
theorem dX0_claim_53 : decode cX0_claim 53 = .ok (.getfield 51, 3) := by decide +kernel
theorem dX0_claim_56 : decode cX0_claim 56 = .ok (.iload 5, 2) := by decide +kernel
theorem dX0_claim_58 : decode cX0_claim 58 = .ok (.iaload, 1) := by decide +kernel
theorem dX0_claim_59 : decode cX0_claim 59 = .ok (.istore 9, 2) := by decide +kernel
theorem dX0_claim_61 : decode cX0_claim 61 = .ok (.iload 9, 2) := by decide +kernel
theorem dX0_claim_63 : decode cX0_claim 63 = .ok (.iload 8, 2) := by decide +kernel
theorem dX0_claim_65 : decode cX0_claim 65 = .ok (.if_icmp .gt 59, 3) := by decide +kernel
theorem dX0_claim_68 : decode cX0_claim 68 = .ok (.iload 9, 2) := by decide +kernel
theorem dX0_claim_70 : decode cX0_claim 70 = .ok (.iload 4, 2) := by decide +kernel
theorem dX0_claim_72 : decode cX0_claim 72 = .ok (.isub, 1) := by decide +kernel
theorem dX0_claim_73 : decode cX0_claim 73 = .ok (.istore 10, 2) := by decide +kernel
theorem dX0_claim_75 : decode cX0_claim 75 = .ok (.iload 10, 2) := by decide +kernel
theorem dX0_claim_77 : decode cX0_claim 77 = .ok (.iload 10, 2) := by decide +kernel
theorem dX0_claim_79 : decode cX0_claim 79 = .ok (.imul, 1) := by decide +kernel
theorem dX0_claim_80 : decode cX0_claim 80 = .ok (.iload 7, 2) := by decide +kernel
theorem dX0_claim_82 : decode cX0_claim 82 = .ok (.iadd, 1) := by decide +kernel
theorem dX0_claim_83 : decode cX0_claim 83 = .ok (.istore 11, 2) := by decide +kernel
theorem dX0_claim_85 : decode cX0_claim 85 = .ok (.iload 5, 2) := by decide +kernel
theorem dX0_claim_87 : decode cX0_claim 87 = .ok (.bipush 16, 2) := by decide +kernel
theorem dX0_claim_89 : decode cX0_claim 89 = .ok (.imul, 1) := by decide +kernel
theorem dX0_claim_90 : decode cX0_claim 90 = .ok (.iload 9, 2) := by decide +kernel
theorem dX0_claim_92 : decode cX0_claim 92 = .ok (.iadd, 1) := by decide +kernel
theorem dX0_claim_93 : decode cX0_claim 93 = .ok (.istore 12, 2) := by decide +kernel
theorem dX0_claim_95 : decode cX0_claim 95 = .ok (.iload 11, 2) := by decide +kernel
theorem dX0_claim_97 : decode cX0_claim 97 = .ok (.aload_n 3, 1) := by decide +kernel
theorem dX0_claim_98 : decode cX0_claim 98 = .ok (.iload 12, 2) := by decide +kernel
theorem dX0_claim_100 : decode cX0_claim 100 = .ok (.iaload, 1) := by decide +kernel
theorem dX0_claim_101 : decode cX0_claim 101 = .ok (.if_icmp .ge 17, 3) := by decide +kernel
theorem dX0_claim_104 : decode cX0_claim 104 = .ok (.aload_n 3, 1) := by decide +kernel
theorem dX0_claim_105 : decode cX0_claim 105 = .ok (.iload 12, 2) := by decide +kernel
theorem dX0_claim_107 : decode cX0_claim 107 = .ok (.iload 11, 2) := by decide +kernel
theorem dX0_claim_109 : decode cX0_claim 109 = .ok (.iastore, 1) := by decide +kernel
theorem dX0_claim_110 : decode cX0_claim 110 = .ok (.aload_n 0, 1) := by decide +kernel
theorem dX0_claim_111 : decode cX0_claim 111 = .ok (.getfield 15, 3) := by decide +kernel
theorem dX0_claim_114 : decode cX0_claim 114 = .ok (.iload 12, 2) := by decide +kernel
theorem dX0_claim_116 : decode cX0_claim 116 = .ok (.iload_n 2, 1) := by decide +kernel
theorem dX0_claim_117 : decode cX0_claim 117 = .ok (.iastore, 1) := by decide +kernel
theorem dX0_claim_118 : decode cX0_claim 118 = .ok (.iinc 9 1, 3) := by decide +kernel
theorem dX0_claim_121 : decode cX0_claim 121 = .ok (.goto (-60), 3) := by decide +kernel
theorem dX0_claim_124 : decode cX0_claim 124 = .ok (.iinc 5 1, 3) := by decide +kernel
theorem dX0_claim_127 : decode cX0_claim 127 = .ok (.goto (-116), 3) := by decide +kernel
theorem dX0_claim_130 : decode cX0_claim 130 = .ok (.return_, 1) := by decide +kernel
set_option maxRecDepth 20000 in
theorem ggX0_ownerAt_X4_isPlot : GoodIn wsX0_ownerAt wsX4_isPlot := goodIn_r _ [4] (by decide +kernel) (by decide +kernel)
set_option maxRecDepth 20000 in
theorem gX0_ownerAt_X4_isPlot_n54 : GoodIn wsX0_ownerAt (wsX4_isPlot) := ggX0_ownerAt_X4_isPlot
theorem dX0_ownerAt_0 : decode cX0_ownerAt 0 = .ok (.iload_n 1, 1) := by decide +kernel
theorem dX0_ownerAt_1 : decode cX0_ownerAt 1 = .ok (.iload_n 2, 1) := by decide +kernel
theorem dX0_ownerAt_2 : decode cX0_ownerAt 2 = .ok (.invokestatic 54, 3) := by decide +kernel
theorem dX0_ownerAt_5 : decode cX0_ownerAt 5 = .ok (.ifCond .eq 17, 3) := by decide +kernel
theorem dX0_ownerAt_8 : decode cX0_ownerAt 8 = .ok (.aload_n 0, 1) := by decide +kernel
theorem dX0_ownerAt_9 : decode cX0_ownerAt 9 = .ok (.getfield 15, 3) := by decide +kernel
theorem dX0_ownerAt_12 : decode cX0_ownerAt 12 = .ok (.iload_n 2, 1) := by decide +kernel
theorem dX0_ownerAt_13 : decode cX0_ownerAt 13 = .ok (.bipush 16, 2) := by decide +kernel
theorem dX0_ownerAt_15 : decode cX0_ownerAt 15 = .ok (.imul, 1) := by decide +kernel
theorem dX0_ownerAt_16 : decode cX0_ownerAt 16 = .ok (.iload_n 1, 1) := by decide +kernel
theorem dX0_ownerAt_17 : decode cX0_ownerAt 17 = .ok (.iadd, 1) := by decide +kernel
theorem dX0_ownerAt_18 : decode cX0_ownerAt 18 = .ok (.iaload, 1) := by decide +kernel
theorem dX0_ownerAt_19 : decode cX0_ownerAt 19 = .ok (.goto 4, 3) := by decide +kernel
theorem dX0_ownerAt_22 : decode cX0_ownerAt 22 = .ok (.iconst (-1), 1) := by decide +kernel
theorem dX0_ownerAt_23 : decode cX0_ownerAt 23 = .ok (.ireturn, 1) := by decide +kernel
theorem dX0_farOfAll_0 : decode cX0_farOfAll 0 = .ok (.iconst 0, 1) := by decide +kernel
theorem dX0_farOfAll_1 : decode cX0_farOfAll 1 = .ok (.istore_n 1, 1) := by decide +kernel
theorem dX0_farOfAll_2 : decode cX0_farOfAll 2 = .ok (.iconst 0, 1) := by decide +kernel
theorem dX0_farOfAll_3 : decode cX0_farOfAll 3 = .ok (.istore_n 2, 1) := by decide +kernel
theorem dX0_farOfAll_4 : decode cX0_farOfAll 4 = .ok (.iload_n 2, 1) := by decide +kernel
theorem dX0_farOfAll_5 : decode cX0_farOfAll 5 = .ok (.bipush 8, 2) := by decide +kernel
theorem dX0_farOfAll_7 : decode cX0_farOfAll 7 = .ok (.if_icmp .ge 18, 3) := by decide +kernel
theorem dX0_farOfAll_10 : decode cX0_farOfAll 10 = .ok (.iload_n 1, 1) := by decide +kernel
theorem dX0_farOfAll_11 : decode cX0_farOfAll 11 = .ok (.aload_n 0, 1) := by decide +kernel
theorem dX0_farOfAll_12 : decode cX0_farOfAll 12 = .ok (.getfield 22, 3) := by decide +kernel
theorem dX0_farOfAll_15 : decode cX0_farOfAll 15 = .ok (.iload_n 2, 1) := by decide +kernel
theorem dX0_farOfAll_16 : decode cX0_farOfAll 16 = .ok (.iaload, 1) := by decide +kernel
theorem dX0_farOfAll_17 : decode cX0_farOfAll 17 = .ok (.iadd, 1) := by decide +kernel
theorem dX0_farOfAll_18 : decode cX0_farOfAll 18 = .ok (.istore_n 1, 1) := by decide +kernel
theorem dX0_farOfAll_19 : decode cX0_farOfAll 19 = .ok (.iinc 2 1, 3) := by decide +kernel
theorem dX0_farOfAll_22 : decode cX0_farOfAll 22 = .ok (.goto (-18), 3) := by decide +kernel
theorem dX0_farOfAll_25 : decode cX0_farOfAll 25 = .ok (.iload_n 1, 1) := by decide +kernel
theorem dX0_farOfAll_26 : decode cX0_farOfAll 26 = .ok (.ireturn, 1) := by decide +kernel
set_option maxRecDepth 20000 in
theorem ggX0_sidesTo_X0_ownerAt : GoodIn wsX0_sidesTo wsX0_ownerAt := goodIn_r _ [5, 6, 7, 8, 9, 10, 11, 12, 13] (by decide +kernel) (by decide +kernel)
set_option maxRecDepth 20000 in
theorem gX0_sidesTo_X0_ownerAt : GoodIn wsX0_sidesTo (wsV RX0 57 RX0 yX0_ownerAt wsX0_ownerAt) := goodIn_app (goodIn_of _ (by decide +kernel)) ggX0_sidesTo_X0_ownerAt
theorem dX0_sidesTo_0 : decode cX0_sidesTo 0 = .ok (.iconst 0, 1) := by decide +kernel
theorem dX0_sidesTo_1 : decode cX0_sidesTo 1 = .ok (.istore_n 3, 1) := by decide +kernel
theorem dX0_sidesTo_2 : decode cX0_sidesTo 2 = .ok (.iconst 0, 1) := by decide +kernel
theorem dX0_sidesTo_3 : decode cX0_sidesTo 3 = .ok (.istore 4, 2) := by decide +kernel
theorem dX0_sidesTo_5 : decode cX0_sidesTo 5 = .ok (.iload 4, 2) := by decide +kernel
theorem dX0_sidesTo_7 : decode cX0_sidesTo 7 = .ok (.bipush 16, 2) := by decide +kernel
theorem dX0_sidesTo_9 : decode cX0_sidesTo 9 = .ok (.if_icmp .ge 125, 3) := by decide +kernel
theorem dX0_sidesTo_12 : decode cX0_sidesTo 12 = .ok (.iconst 0, 1) := by decide +kernel
theorem dX0_sidesTo_13 : decode cX0_sidesTo 13 = .ok (.istore 5, 2) := by decide +kernel
theorem dX0_sidesTo_15 : decode cX0_sidesTo 15 = .ok (.iload 5, 2) := by decide +kernel
theorem dX0_sidesTo_17 : decode cX0_sidesTo 17 = .ok (.bipush 16, 2) := by decide +kernel
theorem dX0_sidesTo_19 : decode cX0_sidesTo 19 = .ok (.if_icmp .ge 109, 3) := by decide +kernel
theorem dX0_sidesTo_22 : decode cX0_sidesTo 22 = .ok (.aload_n 0, 1) := by decide +kernel
theorem dX0_sidesTo_23 : decode cX0_sidesTo 23 = .ok (.iload 5, 2) := by decide +kernel
theorem dX0_sidesTo_25 : decode cX0_sidesTo 25 = .ok (.iload 4, 2) := by decide +kernel
theorem dX0_sidesTo_27 : decode cX0_sidesTo 27 = .ok (.invokevirtual 57, 3) := by decide +kernel
theorem dX0_sidesTo_30 : decode cX0_sidesTo 30 = .ok (.iload_n 1, 1) := by decide +kernel
theorem dX0_sidesTo_31 : decode cX0_sidesTo 31 = .ok (.if_icmp .ne 91, 3) := by decide +kernel
theorem dX0_sidesTo_34 : decode cX0_sidesTo 34 = .ok (.iload_n 3, 1) := by decide +kernel
theorem dX0_sidesTo_35 : decode cX0_sidesTo 35 = .ok (.aload_n 0, 1) := by decide +kernel
theorem dX0_sidesTo_36 : decode cX0_sidesTo 36 = .ok (.iload 5, 2) := by decide +kernel
theorem dX0_sidesTo_38 : decode cX0_sidesTo 38 = .ok (.iconst 1, 1) := by decide +kernel
theorem dX0_sidesTo_39 : decode cX0_sidesTo 39 = .ok (.isub, 1) := by decide +kernel
theorem dX0_sidesTo_40 : decode cX0_sidesTo 40 = .ok (.iload 4, 2) := by decide +kernel
theorem dX0_sidesTo_42 : decode cX0_sidesTo 42 = .ok (.invokevirtual 57, 3) := by decide +kernel
theorem dX0_sidesTo_45 : decode cX0_sidesTo 45 = .ok (.iload_n 2, 1) := by decide +kernel
theorem dX0_sidesTo_46 : decode cX0_sidesTo 46 = .ok (.if_icmp .ne 7, 3) := by decide +kernel
theorem dX0_sidesTo_49 : decode cX0_sidesTo 49 = .ok (.iconst 1, 1) := by decide +kernel
theorem dX0_sidesTo_50 : decode cX0_sidesTo 50 = .ok (.goto 4, 3) := by decide +kernel
theorem dX0_sidesTo_53 : decode cX0_sidesTo 53 = .ok (.iconst 0, 1) := by decide +kernel
theorem dX0_sidesTo_54 : decode cX0_sidesTo 54 = .ok (.iadd, 1) := by decide +kernel
theorem dX0_sidesTo_55 : decode cX0_sidesTo 55 = .ok (.istore_n 3, 1) := by decide +kernel
theorem dX0_sidesTo_56 : decode cX0_sidesTo 56 = .ok (.iload_n 3, 1) := by decide +kernel
theorem dX0_sidesTo_57 : decode cX0_sidesTo 57 = .ok (.aload_n 0, 1) := by decide +kernel
theorem dX0_sidesTo_58 : decode cX0_sidesTo 58 = .ok (.iload 5, 2) := by decide +kernel
theorem dX0_sidesTo_60 : decode cX0_sidesTo 60 = .ok (.iconst 1, 1) := by decide +kernel
theorem dX0_sidesTo_61 : decode cX0_sidesTo 61 = .ok (.iadd, 1) := by decide +kernel
theorem dX0_sidesTo_62 : decode cX0_sidesTo 62 = .ok (.iload 4, 2) := by decide +kernel
theorem dX0_sidesTo_64 : decode cX0_sidesTo 64 = .ok (.invokevirtual 57, 3) := by decide +kernel
theorem dX0_sidesTo_67 : decode cX0_sidesTo 67 = .ok (.iload_n 2, 1) := by decide +kernel
theorem dX0_sidesTo_68 : decode cX0_sidesTo 68 = .ok (.if_icmp .ne 7, 3) := by decide +kernel
theorem dX0_sidesTo_71 : decode cX0_sidesTo 71 = .ok (.iconst 1, 1) := by decide +kernel
theorem dX0_sidesTo_72 : decode cX0_sidesTo 72 = .ok (.goto 4, 3) := by decide +kernel
theorem dX0_sidesTo_75 : decode cX0_sidesTo 75 = .ok (.iconst 0, 1) := by decide +kernel
theorem dX0_sidesTo_76 : decode cX0_sidesTo 76 = .ok (.iadd, 1) := by decide +kernel
theorem dX0_sidesTo_77 : decode cX0_sidesTo 77 = .ok (.istore_n 3, 1) := by decide +kernel
theorem dX0_sidesTo_78 : decode cX0_sidesTo 78 = .ok (.iload_n 3, 1) := by decide +kernel
theorem dX0_sidesTo_79 : decode cX0_sidesTo 79 = .ok (.aload_n 0, 1) := by decide +kernel
theorem dX0_sidesTo_80 : decode cX0_sidesTo 80 = .ok (.iload 5, 2) := by decide +kernel
theorem dX0_sidesTo_82 : decode cX0_sidesTo 82 = .ok (.iload 4, 2) := by decide +kernel
theorem dX0_sidesTo_84 : decode cX0_sidesTo 84 = .ok (.iconst 1, 1) := by decide +kernel
theorem dX0_sidesTo_85 : decode cX0_sidesTo 85 = .ok (.isub, 1) := by decide +kernel
theorem dX0_sidesTo_86 : decode cX0_sidesTo 86 = .ok (.invokevirtual 57, 3) := by decide +kernel
theorem dX0_sidesTo_89 : decode cX0_sidesTo 89 = .ok (.iload_n 2, 1) := by decide +kernel
theorem dX0_sidesTo_90 : decode cX0_sidesTo 90 = .ok (.if_icmp .ne 7, 3) := by decide +kernel
theorem dX0_sidesTo_93 : decode cX0_sidesTo 93 = .ok (.iconst 1, 1) := by decide +kernel
theorem dX0_sidesTo_94 : decode cX0_sidesTo 94 = .ok (.goto 4, 3) := by decide +kernel
theorem dX0_sidesTo_97 : decode cX0_sidesTo 97 = .ok (.iconst 0, 1) := by decide +kernel
theorem dX0_sidesTo_98 : decode cX0_sidesTo 98 = .ok (.iadd, 1) := by decide +kernel
theorem dX0_sidesTo_99 : decode cX0_sidesTo 99 = .ok (.istore_n 3, 1) := by decide +kernel
theorem dX0_sidesTo_100 : decode cX0_sidesTo 100 = .ok (.iload_n 3, 1) := by decide +kernel
theorem dX0_sidesTo_101 : decode cX0_sidesTo 101 = .ok (.aload_n 0, 1) := by decide +kernel
theorem dX0_sidesTo_102 : decode cX0_sidesTo 102 = .ok (.iload 5, 2) := by decide +kernel
theorem dX0_sidesTo_104 : decode cX0_sidesTo 104 = .ok (.iload 4, 2) := by decide +kernel
theorem dX0_sidesTo_106 : decode cX0_sidesTo 106 = .ok (.iconst 1, 1) := by decide +kernel
theorem dX0_sidesTo_107 : decode cX0_sidesTo 107 = .ok (.iadd, 1) := by decide +kernel
theorem dX0_sidesTo_108 : decode cX0_sidesTo 108 = .ok (.invokevirtual 57, 3) := by decide +kernel
theorem dX0_sidesTo_111 : decode cX0_sidesTo 111 = .ok (.iload_n 2, 1) := by decide +kernel
theorem dX0_sidesTo_112 : decode cX0_sidesTo 112 = .ok (.if_icmp .ne 7, 3) := by decide +kernel
theorem dX0_sidesTo_115 : decode cX0_sidesTo 115 = .ok (.iconst 1, 1) := by decide +kernel
theorem dX0_sidesTo_116 : decode cX0_sidesTo 116 = .ok (.goto 4, 3) := by decide +kernel
theorem dX0_sidesTo_119 : decode cX0_sidesTo 119 = .ok (.iconst 0, 1) := by decide +kernel
theorem dX0_sidesTo_120 : decode cX0_sidesTo 120 = .ok (.iadd, 1) := by decide +kernel
theorem dX0_sidesTo_121 : decode cX0_sidesTo 121 = .ok (.istore_n 3, 1) := by decide +kernel
theorem dX0_sidesTo_122 : decode cX0_sidesTo 122 = .ok (.iinc 5 1, 3) := by decide +kernel
theorem dX0_sidesTo_125 : decode cX0_sidesTo 125 = .ok (.goto (-110), 3) := by decide +kernel
theorem dX0_sidesTo_128 : decode cX0_sidesTo 128 = .ok (.iinc 4 1, 3) := by decide +kernel
theorem dX0_sidesTo_131 : decode cX0_sidesTo 131 = .ok (.goto (-126), 3) := by decide +kernel
theorem dX0_sidesTo_134 : decode cX0_sidesTo 134 = .ok (.iload_n 3, 1) := by decide +kernel
theorem dX0_sidesTo_135 : decode cX0_sidesTo 135 = .ok (.ireturn, 1) := by decide +kernel
set_option maxRecDepth 20000 in
theorem ggX0_touching_X0_ownerAt : GoodIn wsX0_touching wsX0_ownerAt := goodIn_r _ [5, 6, 7, 8, 9, 18, 19, 20, 21] (by decide +kernel) (by decide +kernel)
set_option maxRecDepth 20000 in
theorem gX0_touching_X0_ownerAt : GoodIn wsX0_touching (wsV RX0 57 RX0 yX0_ownerAt wsX0_ownerAt) := goodIn_app (goodIn_of _ (by decide +kernel)) ggX0_touching_X0_ownerAt
set_option maxRecDepth 20000 in
theorem ggX0_touching_X0_ownersAt : GoodIn wsX0_touching wsX0_ownersAt := goodIn_r _ [13, 1, 2, 3, 4, 5, 6, 7, 8, 9, 14, 15, 18, 19, 20, 21] (by decide +kernel) (by decide +kernel)
set_option maxRecDepth 20000 in
theorem gX0_touching_X0_ownersAt : GoodIn wsX0_touching (wsV RX0 61 RX0 yX0_ownersAt wsX0_ownersAt) := goodIn_app (goodIn_of _ (by decide +kernel)) ggX0_touching_X0_ownersAt
set_option maxRecDepth 20000 in
theorem ggX0_touching_X4_without : GoodIn wsX0_touching wsX4_without := goodIn_r _ [17] (by decide +kernel) (by decide +kernel)
set_option maxRecDepth 20000 in
theorem gX0_touching_X4_without_n64 : GoodIn wsX0_touching (wsX4_without) := ggX0_touching_X4_without
theorem dX0_touching_0 : decode cX0_touching 0 = .ok (.iconst 0, 1) := by decide +kernel
theorem dX0_touching_1 : decode cX0_touching 1 = .ok (.istore_n 2, 1) := by decide +kernel
theorem dX0_touching_2 : decode cX0_touching 2 = .ok (.iconst 0, 1) := by decide +kernel
theorem dX0_touching_3 : decode cX0_touching 3 = .ok (.istore_n 3, 1) := by decide +kernel
theorem dX0_touching_4 : decode cX0_touching 4 = .ok (.iload_n 3, 1) := by decide +kernel
theorem dX0_touching_5 : decode cX0_touching 5 = .ok (.bipush 16, 2) := by decide +kernel
theorem dX0_touching_7 : decode cX0_touching 7 = .ok (.if_icmp .ge 80, 3) := by decide +kernel
theorem dX0_touching_10 : decode cX0_touching 10 = .ok (.iconst 0, 1) := by decide +kernel
theorem dX0_touching_11 : decode cX0_touching 11 = .ok (.istore 4, 2) := by decide +kernel
theorem dX0_touching_13 : decode cX0_touching 13 = .ok (.iload 4, 2) := by decide +kernel
theorem dX0_touching_15 : decode cX0_touching 15 = .ok (.bipush 16, 2) := by decide +kernel
theorem dX0_touching_17 : decode cX0_touching 17 = .ok (.if_icmp .ge 64, 3) := by decide +kernel
theorem dX0_touching_20 : decode cX0_touching 20 = .ok (.aload_n 0, 1) := by decide +kernel
theorem dX0_touching_21 : decode cX0_touching 21 = .ok (.iload 4, 2) := by decide +kernel
theorem dX0_touching_23 : decode cX0_touching 23 = .ok (.iload_n 3, 1) := by decide +kernel
theorem dX0_touching_24 : decode cX0_touching 24 = .ok (.invokevirtual 57, 3) := by decide +kernel
theorem dX0_touching_27 : decode cX0_touching 27 = .ok (.iload_n 1, 1) := by decide +kernel
theorem dX0_touching_28 : decode cX0_touching 28 = .ok (.if_icmp .ne 47, 3) := by decide +kernel
theorem dX0_touching_31 : decode cX0_touching 31 = .ok (.iload_n 2, 1) := by decide +kernel
theorem dX0_touching_32 : decode cX0_touching 32 = .ok (.aload_n 0, 1) := by decide +kernel
theorem dX0_touching_33 : decode cX0_touching 33 = .ok (.iload 4, 2) := by decide +kernel
theorem dX0_touching_35 : decode cX0_touching 35 = .ok (.iconst 1, 1) := by decide +kernel
theorem dX0_touching_36 : decode cX0_touching 36 = .ok (.isub, 1) := by decide +kernel
theorem dX0_touching_37 : decode cX0_touching 37 = .ok (.iload_n 3, 1) := by decide +kernel
theorem dX0_touching_38 : decode cX0_touching 38 = .ok (.invokevirtual 61, 3) := by decide +kernel
theorem dX0_touching_41 : decode cX0_touching 41 = .ok (.aload_n 0, 1) := by decide +kernel
theorem dX0_touching_42 : decode cX0_touching 42 = .ok (.iload 4, 2) := by decide +kernel
theorem dX0_touching_44 : decode cX0_touching 44 = .ok (.iconst 1, 1) := by decide +kernel
theorem dX0_touching_45 : decode cX0_touching 45 = .ok (.iadd, 1) := by decide +kernel
theorem dX0_touching_46 : decode cX0_touching 46 = .ok (.iload_n 3, 1) := by decide +kernel
theorem dX0_touching_47 : decode cX0_touching 47 = .ok (.invokevirtual 61, 3) := by decide +kernel
theorem dX0_touching_50 : decode cX0_touching 50 = .ok (.ior, 1) := by decide +kernel
theorem dX0_touching_51 : decode cX0_touching 51 = .ok (.ior, 1) := by decide +kernel
theorem dX0_touching_52 : decode cX0_touching 52 = .ok (.istore_n 2, 1) := by decide +kernel
theorem dX0_touching_53 : decode cX0_touching 53 = .ok (.iload_n 2, 1) := by decide +kernel
theorem dX0_touching_54 : decode cX0_touching 54 = .ok (.aload_n 0, 1) := by decide +kernel
theorem dX0_touching_55 : decode cX0_touching 55 = .ok (.iload 4, 2) := by decide +kernel
theorem dX0_touching_57 : decode cX0_touching 57 = .ok (.iload_n 3, 1) := by decide +kernel
theorem dX0_touching_58 : decode cX0_touching 58 = .ok (.iconst 1, 1) := by decide +kernel
theorem dX0_touching_59 : decode cX0_touching 59 = .ok (.isub, 1) := by decide +kernel
theorem dX0_touching_60 : decode cX0_touching 60 = .ok (.invokevirtual 61, 3) := by decide +kernel
theorem dX0_touching_63 : decode cX0_touching 63 = .ok (.aload_n 0, 1) := by decide +kernel
theorem dX0_touching_64 : decode cX0_touching 64 = .ok (.iload 4, 2) := by decide +kernel
theorem dX0_touching_66 : decode cX0_touching 66 = .ok (.iload_n 3, 1) := by decide +kernel
theorem dX0_touching_67 : decode cX0_touching 67 = .ok (.iconst 1, 1) := by decide +kernel
theorem dX0_touching_68 : decode cX0_touching 68 = .ok (.iadd, 1) := by decide +kernel
theorem dX0_touching_69 : decode cX0_touching 69 = .ok (.invokevirtual 61, 3) := by decide +kernel
theorem dX0_touching_72 : decode cX0_touching 72 = .ok (.ior, 1) := by decide +kernel
theorem dX0_touching_73 : decode cX0_touching 73 = .ok (.ior, 1) := by decide +kernel
theorem dX0_touching_74 : decode cX0_touching 74 = .ok (.istore_n 2, 1) := by decide +kernel
theorem dX0_touching_75 : decode cX0_touching 75 = .ok (.iinc 4 1, 3) := by decide +kernel
theorem dX0_touching_78 : decode cX0_touching 78 = .ok (.goto (-65), 3) := by decide +kernel
theorem dX0_touching_81 : decode cX0_touching 81 = .ok (.iinc 3 1, 3) := by decide +kernel
theorem dX0_touching_84 : decode cX0_touching 84 = .ok (.goto (-80), 3) := by decide +kernel
theorem dX0_touching_87 : decode cX0_touching 87 = .ok (.iload_n 2, 1) := by decide +kernel
theorem dX0_touching_88 : decode cX0_touching 88 = .ok (.iload_n 1, 1) := by decide +kernel
theorem dX0_touching_89 : decode cX0_touching 89 = .ok (.invokestatic 64, 3) := by decide +kernel
theorem dX0_touching_92 : decode cX0_touching 92 = .ok (.ireturn, 1) := by decide +kernel
set_option maxRecDepth 20000 in
theorem ggX0_ownersAt_X0_ownerAt : GoodIn wsX0_ownersAt wsX0_ownerAt := goodIn_r _ [5, 6, 7, 8, 9, 12, 13, 14, 15] (by decide +kernel) (by decide +kernel)
set_option maxRecDepth 20000 in
theorem gX0_ownersAt_X0_ownerAt : GoodIn wsX0_ownersAt (wsV RX0 57 RX0 yX0_ownerAt wsX0_ownerAt) := goodIn_app (goodIn_of _ (by decide +kernel)) ggX0_ownersAt_X0_ownerAt
set_option maxRecDepth 20000 in
theorem ggX0_ownersAt_X4_with : GoodIn wsX0_ownersAt wsX4_with := goodIn_r _ [11] (by decide +kernel) (by decide +kernel)
set_option maxRecDepth 20000 in
theorem gX0_ownersAt_X4_with_n67 : GoodIn wsX0_ownersAt (wsX4_with) := ggX0_ownersAt_X4_with
theorem dX0_ownersAt_0 : decode cX0_ownersAt 0 = .ok (.aload_n 0, 1) := by decide +kernel
theorem dX0_ownersAt_1 : decode cX0_ownersAt 1 = .ok (.iload_n 1, 1) := by decide +kernel
theorem dX0_ownersAt_2 : decode cX0_ownersAt 2 = .ok (.iload_n 2, 1) := by decide +kernel
theorem dX0_ownersAt_3 : decode cX0_ownersAt 3 = .ok (.invokevirtual 57, 3) := by decide +kernel
theorem dX0_ownersAt_6 : decode cX0_ownersAt 6 = .ok (.istore_n 3, 1) := by decide +kernel
theorem dX0_ownersAt_7 : decode cX0_ownersAt 7 = .ok (.iload_n 3, 1) := by decide +kernel
theorem dX0_ownersAt_8 : decode cX0_ownersAt 8 = .ok (.iconst (-1), 1) := by decide +kernel
theorem dX0_ownersAt_9 : decode cX0_ownersAt 9 = .ok (.if_icmp .ne 7, 3) := by decide +kernel
theorem dX0_ownersAt_12 : decode cX0_ownersAt 12 = .ok (.iconst 0, 1) := by decide +kernel
theorem dX0_ownersAt_13 : decode cX0_ownersAt 13 = .ok (.goto 8, 3) := by decide +kernel
theorem dX0_ownersAt_16 : decode cX0_ownersAt 16 = .ok (.iconst 0, 1) := by decide +kernel
theorem dX0_ownersAt_17 : decode cX0_ownersAt 17 = .ok (.iload_n 3, 1) := by decide +kernel
theorem dX0_ownersAt_18 : decode cX0_ownersAt 18 = .ok (.invokestatic 67, 3) := by decide +kernel
theorem dX0_ownersAt_21 : decode cX0_ownersAt 21 = .ok (.ireturn, 1) := by decide +kernel
theorem dX0_inBoth_0 : decode cX0_inBoth 0 = .ok (.iconst 0, 1) := by decide +kernel
theorem dX0_inBoth_1 : decode cX0_inBoth 1 = .ok (.istore 4, 2) := by decide +kernel
theorem dX0_inBoth_3 : decode cX0_inBoth 3 = .ok (.iconst 0, 1) := by decide +kernel
theorem dX0_inBoth_4 : decode cX0_inBoth 4 = .ok (.istore 5, 2) := by decide +kernel
theorem dX0_inBoth_6 : decode cX0_inBoth 6 = .ok (.iload 5, 2) := by decide +kernel
theorem dX0_inBoth_8 : decode cX0_inBoth 8 = .ok (.sipush 256, 3) := by decide +kernel
theorem dX0_inBoth_11 : decode cX0_inBoth 11 = .ok (.if_icmp .ge 34, 3) := by decide +kernel
theorem dX0_inBoth_14 : decode cX0_inBoth 14 = .ok (.aload_n 0, 1) := by decide +kernel
theorem dX0_inBoth_15 : decode cX0_inBoth 15 = .ok (.getfield 15, 3) := by decide +kernel
theorem dX0_inBoth_18 : decode cX0_inBoth 18 = .ok (.iload 5, 2) := by decide +kernel
theorem dX0_inBoth_20 : decode cX0_inBoth 20 = .ok (.iaload, 1) := by decide +kernel
theorem dX0_inBoth_21 : decode cX0_inBoth 21 = .ok (.iload_n 1, 1) := by decide +kernel
theorem dX0_inBoth_22 : decode cX0_inBoth 22 = .ok (.if_icmp .ne 17, 3) := by decide +kernel
theorem dX0_inBoth_25 : decode cX0_inBoth 25 = .ok (.aload_n 2, 1) := by decide +kernel
theorem dX0_inBoth_26 : decode cX0_inBoth 26 = .ok (.getfield 15, 3) := by decide +kernel
theorem dX0_inBoth_29 : decode cX0_inBoth 29 = .ok (.iload 5, 2) := by decide +kernel
theorem dX0_inBoth_31 : decode cX0_inBoth 31 = .ok (.iaload, 1) := by decide +kernel
theorem dX0_inBoth_32 : decode cX0_inBoth 32 = .ok (.iload_n 3, 1) := by decide +kernel
theorem dX0_inBoth_33 : decode cX0_inBoth 33 = .ok (.if_icmp .ne 6, 3) := by decide +kernel
theorem dX0_inBoth_36 : decode cX0_inBoth 36 = .ok (.iinc 4 1, 3) := by decide +kernel
theorem dX0_inBoth_39 : decode cX0_inBoth 39 = .ok (.iinc 5 1, 3) := by decide +kernel
theorem dX0_inBoth_42 : decode cX0_inBoth 42 = .ok (.goto (-36), 3) := by decide +kernel
theorem dX0_inBoth_45 : decode cX0_inBoth 45 = .ok (.iload 4, 2) := by decide +kernel
theorem dX0_inBoth_47 : decode cX0_inBoth 47 = .ok (.ireturn, 1) := by decide +kernel
theorem dX1_init_0 : decode cX1_init 0 = .ok (.aload_n 0, 1) := by decide +kernel
theorem dX1_init_1 : decode cX1_init 1 = .ok (.invokespecial 3, 3) := by decide +kernel
theorem dX1_init_4 : decode cX1_init 4 = .ok (.aload_n 0, 1) := by decide +kernel
theorem dX1_init_5 : decode cX1_init 5 = .ok (.bipush 16, 2) := by decide +kernel
theorem dX1_init_7 : decode cX1_init 7 = .ok (.newarray .int, 2) := by decide +kernel
theorem dX1_init_9 : decode cX1_init 9 = .ok (.putfield 9, 3) := by decide +kernel
theorem dX1_init_12 : decode cX1_init 12 = .ok (.aload_n 0, 1) := by decide +kernel
theorem dX1_init_13 : decode cX1_init 13 = .ok (.bipush 16, 2) := by decide +kernel
theorem dX1_init_15 : decode cX1_init 15 = .ok (.newarray .int, 2) := by decide +kernel
theorem dX1_init_17 : decode cX1_init 17 = .ok (.putfield 15, 3) := by decide +kernel
theorem dX1_init_20 : decode cX1_init 20 = .ok (.aload_n 0, 1) := by decide +kernel
theorem dX1_init_21 : decode cX1_init 21 = .ok (.iconst 0, 1) := by decide +kernel
theorem dX1_init_22 : decode cX1_init 22 = .ok (.putfield 18, 3) := by decide +kernel
theorem dX1_init_25 : decode cX1_init 25 = .ok (.aload_n 0, 1) := by decide +kernel
theorem dX1_init_26 : decode cX1_init 26 = .ok (.bipush 8, 2) := by decide +kernel
theorem dX1_init_28 : decode cX1_init 28 = .ok (.newarray .int, 2) := by decide +kernel
theorem dX1_init_30 : decode cX1_init 30 = .ok (.putfield 22, 3) := by decide +kernel
theorem dX1_init_33 : decode cX1_init 33 = .ok (.aload_n 0, 1) := by decide +kernel
theorem dX1_init_34 : decode cX1_init 34 = .ok (.bipush 8, 2) := by decide +kernel
theorem dX1_init_36 : decode cX1_init 36 = .ok (.newarray .int, 2) := by decide +kernel
theorem dX1_init_38 : decode cX1_init 38 = .ok (.putfield 25, 3) := by decide +kernel
theorem dX1_init_41 : decode cX1_init 41 = .ok (.aload_n 0, 1) := by decide +kernel
theorem dX1_init_42 : decode cX1_init 42 = .ok (.bipush 8, 2) := by decide +kernel
theorem dX1_init_44 : decode cX1_init 44 = .ok (.newarray .int, 2) := by decide +kernel
theorem dX1_init_46 : decode cX1_init 46 = .ok (.putfield 28, 3) := by decide +kernel
theorem dX1_init_49 : decode cX1_init 49 = .ok (.aload_n 0, 1) := by decide +kernel
theorem dX1_init_50 : decode cX1_init 50 = .ok (.bipush 8, 2) := by decide +kernel
theorem dX1_init_52 : decode cX1_init 52 = .ok (.newarray .long, 2) := by decide +kernel
theorem dX1_init_54 : decode cX1_init 54 = .ok (.putfield 31, 3) := by decide +kernel
theorem dX1_init_57 : decode cX1_init 57 = .ok (.aload_n 0, 1) := by decide +kernel
theorem dX1_init_58 : decode cX1_init 58 = .ok (.sipush 512, 3) := by decide +kernel
theorem dX1_init_61 : decode cX1_init 61 = .ok (.newarray .int, 2) := by decide +kernel
theorem dX1_init_63 : decode cX1_init 63 = .ok (.putfield 35, 3) := by decide +kernel
theorem dX1_init_66 : decode cX1_init 66 = .ok (.iconst 0, 1) := by decide +kernel
theorem dX1_init_67 : decode cX1_init 67 = .ok (.istore_n 1, 1) := by decide +kernel
theorem dX1_init_68 : decode cX1_init 68 = .ok (.iload_n 1, 1) := by decide +kernel
theorem dX1_init_69 : decode cX1_init 69 = .ok (.bipush 16, 2) := by decide +kernel
theorem dX1_init_71 : decode cX1_init 71 = .ok (.if_icmp .ge 17, 3) := by decide +kernel
theorem dX1_init_74 : decode cX1_init 74 = .ok (.aload_n 0, 1) := by decide +kernel
theorem dX1_init_75 : decode cX1_init 75 = .ok (.getfield 15, 3) := by decide +kernel
theorem dX1_init_78 : decode cX1_init 78 = .ok (.iload_n 1, 1) := by decide +kernel
theorem dX1_init_79 : decode cX1_init 79 = .ok (.bipush 15, 2) := by decide +kernel
theorem dX1_init_81 : decode cX1_init 81 = .ok (.iastore, 1) := by decide +kernel
theorem dX1_init_82 : decode cX1_init 82 = .ok (.iinc 1 1, 3) := by decide +kernel
theorem dX1_init_85 : decode cX1_init 85 = .ok (.goto (-17), 3) := by decide +kernel
theorem dX1_init_88 : decode cX1_init 88 = .ok (.iconst 0, 1) := by decide +kernel
theorem dX1_init_89 : decode cX1_init 89 = .ok (.istore_n 1, 1) := by decide +kernel
theorem dX1_init_90 : decode cX1_init 90 = .ok (.iload_n 1, 1) := by decide +kernel
theorem dX1_init_91 : decode cX1_init 91 = .ok (.sipush 512, 3) := by decide +kernel
theorem dX1_init_94 : decode cX1_init 94 = .ok (.if_icmp .ge 17, 3) := by decide +kernel
theorem dX1_init_97 : decode cX1_init 97 = .ok (.aload_n 0, 1) := by decide +kernel
theorem dX1_init_98 : decode cX1_init 98 = .ok (.getfield 35, 3) := by decide +kernel
theorem dX1_init_101 : decode cX1_init 101 = .ok (.iload_n 1, 1) := by decide +kernel
theorem dX1_init_102 : decode cX1_init 102 = .ok (.bipush (-6), 2) := by decide +kernel
theorem dX1_init_104 : decode cX1_init 104 = .ok (.iastore, 1) := by decide +kernel
theorem dX1_init_105 : decode cX1_init 105 = .ok (.iinc 1 1, 3) := by decide +kernel
theorem dX1_init_108 : decode cX1_init 108 = .ok (.goto (-18), 3) := by decide +kernel
theorem dX1_init_111 : decode cX1_init 111 = .ok (.return_, 1) := by decide +kernel
theorem dX1_copyFrom_0 : decode cX1_copyFrom 0 = .ok (.aload_n 1, 1) := by decide +kernel
theorem dX1_copyFrom_1 : decode cX1_copyFrom 1 = .ok (.getfield 9, 3) := by decide +kernel
theorem dX1_copyFrom_4 : decode cX1_copyFrom 4 = .ok (.iconst 0, 1) := by decide +kernel
theorem dX1_copyFrom_5 : decode cX1_copyFrom 5 = .ok (.aload_n 0, 1) := by decide +kernel
theorem dX1_copyFrom_6 : decode cX1_copyFrom 6 = .ok (.getfield 9, 3) := by decide +kernel
theorem dX1_copyFrom_9 : decode cX1_copyFrom 9 = .ok (.iconst 0, 1) := by decide +kernel
theorem dX1_copyFrom_10 : decode cX1_copyFrom 10 = .ok (.bipush 16, 2) := by decide +kernel
theorem dX1_copyFrom_12 : decode cX1_copyFrom 12 = .ok (.invokestatic 38, 3) := by decide +kernel
theorem dX1_copyFrom_15 : decode cX1_copyFrom 15 = .ok (.aload_n 1, 1) := by decide +kernel
theorem dX1_copyFrom_16 : decode cX1_copyFrom 16 = .ok (.getfield 15, 3) := by decide +kernel
theorem dX1_copyFrom_19 : decode cX1_copyFrom 19 = .ok (.iconst 0, 1) := by decide +kernel
theorem dX1_copyFrom_20 : decode cX1_copyFrom 20 = .ok (.aload_n 0, 1) := by decide +kernel
theorem dX1_copyFrom_21 : decode cX1_copyFrom 21 = .ok (.getfield 15, 3) := by decide +kernel
theorem dX1_copyFrom_24 : decode cX1_copyFrom 24 = .ok (.iconst 0, 1) := by decide +kernel
theorem dX1_copyFrom_25 : decode cX1_copyFrom 25 = .ok (.bipush 16, 2) := by decide +kernel
theorem dX1_copyFrom_27 : decode cX1_copyFrom 27 = .ok (.invokestatic 38, 3) := by decide +kernel
theorem dX1_copyFrom_30 : decode cX1_copyFrom 30 = .ok (.aload_n 0, 1) := by decide +kernel
theorem dX1_copyFrom_31 : decode cX1_copyFrom 31 = .ok (.aload_n 1, 1) := by decide +kernel
theorem dX1_copyFrom_32 : decode cX1_copyFrom 32 = .ok (.getfield 18, 3) := by decide +kernel
theorem dX1_copyFrom_35 : decode cX1_copyFrom 35 = .ok (.putfield 18, 3) := by decide +kernel
theorem dX1_copyFrom_38 : decode cX1_copyFrom 38 = .ok (.aload_n 1, 1) := by decide +kernel
theorem dX1_copyFrom_39 : decode cX1_copyFrom 39 = .ok (.getfield 22, 3) := by decide +kernel
theorem dX1_copyFrom_42 : decode cX1_copyFrom 42 = .ok (.iconst 0, 1) := by decide +kernel
theorem dX1_copyFrom_43 : decode cX1_copyFrom 43 = .ok (.aload_n 0, 1) := by decide +kernel
theorem dX1_copyFrom_44 : decode cX1_copyFrom 44 = .ok (.getfield 22, 3) := by decide +kernel
theorem dX1_copyFrom_47 : decode cX1_copyFrom 47 = .ok (.iconst 0, 1) := by decide +kernel
theorem dX1_copyFrom_48 : decode cX1_copyFrom 48 = .ok (.bipush 8, 2) := by decide +kernel
theorem dX1_copyFrom_50 : decode cX1_copyFrom 50 = .ok (.invokestatic 38, 3) := by decide +kernel
theorem dX1_copyFrom_53 : decode cX1_copyFrom 53 = .ok (.aload_n 1, 1) := by decide +kernel
theorem dX1_copyFrom_54 : decode cX1_copyFrom 54 = .ok (.getfield 25, 3) := by decide +kernel
theorem dX1_copyFrom_57 : decode cX1_copyFrom 57 = .ok (.iconst 0, 1) := by decide +kernel
theorem dX1_copyFrom_58 : decode cX1_copyFrom 58 = .ok (.aload_n 0, 1) := by decide +kernel
theorem dX1_copyFrom_59 : decode cX1_copyFrom 59 = .ok (.getfield 25, 3) := by decide +kernel
theorem dX1_copyFrom_62 : decode cX1_copyFrom 62 = .ok (.iconst 0, 1) := by decide +kernel
theorem dX1_copyFrom_63 : decode cX1_copyFrom 63 = .ok (.bipush 8, 2) := by decide +kernel
theorem dX1_copyFrom_65 : decode cX1_copyFrom 65 = .ok (.invokestatic 38, 3) := by decide +kernel
theorem dX1_copyFrom_68 : decode cX1_copyFrom 68 = .ok (.aload_n 1, 1) := by decide +kernel
theorem dX1_copyFrom_69 : decode cX1_copyFrom 69 = .ok (.getfield 28, 3) := by decide +kernel
theorem dX1_copyFrom_72 : decode cX1_copyFrom 72 = .ok (.iconst 0, 1) := by decide +kernel
theorem dX1_copyFrom_73 : decode cX1_copyFrom 73 = .ok (.aload_n 0, 1) := by decide +kernel
theorem dX1_copyFrom_74 : decode cX1_copyFrom 74 = .ok (.getfield 28, 3) := by decide +kernel
theorem dX1_copyFrom_77 : decode cX1_copyFrom 77 = .ok (.iconst 0, 1) := by decide +kernel
theorem dX1_copyFrom_78 : decode cX1_copyFrom 78 = .ok (.bipush 8, 2) := by decide +kernel
theorem dX1_copyFrom_80 : decode cX1_copyFrom 80 = .ok (.invokestatic 38, 3) := by decide +kernel
theorem dX1_copyFrom_83 : decode cX1_copyFrom 83 = .ok (.aload_n 1, 1) := by decide +kernel
theorem dX1_copyFrom_84 : decode cX1_copyFrom 84 = .ok (.getfield 31, 3) := by decide +kernel
theorem dX1_copyFrom_87 : decode cX1_copyFrom 87 = .ok (.iconst 0, 1) := by decide +kernel
theorem dX1_copyFrom_88 : decode cX1_copyFrom 88 = .ok (.aload_n 0, 1) := by decide +kernel
theorem dX1_copyFrom_89 : decode cX1_copyFrom 89 = .ok (.getfield 31, 3) := by decide +kernel
theorem dX1_copyFrom_92 : decode cX1_copyFrom 92 = .ok (.iconst 0, 1) := by decide +kernel
theorem dX1_copyFrom_93 : decode cX1_copyFrom 93 = .ok (.bipush 8, 2) := by decide +kernel
theorem dX1_copyFrom_95 : decode cX1_copyFrom 95 = .ok (.invokestatic 38, 3) := by decide +kernel
theorem dX1_copyFrom_98 : decode cX1_copyFrom 98 = .ok (.aload_n 1, 1) := by decide +kernel
theorem dX1_copyFrom_99 : decode cX1_copyFrom 99 = .ok (.getfield 35, 3) := by decide +kernel
theorem dX1_copyFrom_102 : decode cX1_copyFrom 102 = .ok (.iconst 0, 1) := by decide +kernel
theorem dX1_copyFrom_103 : decode cX1_copyFrom 103 = .ok (.aload_n 0, 1) := by decide +kernel
theorem dX1_copyFrom_104 : decode cX1_copyFrom 104 = .ok (.getfield 35, 3) := by decide +kernel
theorem dX1_copyFrom_107 : decode cX1_copyFrom 107 = .ok (.iconst 0, 1) := by decide +kernel
theorem dX1_copyFrom_108 : decode cX1_copyFrom 108 = .ok (.sipush 512, 3) := by decide +kernel
theorem dX1_copyFrom_111 : decode cX1_copyFrom 111 = .ok (.invokestatic 38, 3) := by decide +kernel
theorem dX1_copyFrom_114 : decode cX1_copyFrom 114 = .ok (.return_, 1) := by decide +kernel
theorem dX1_rowHasPlots_0 : decode cX1_rowHasPlots 0 = .ok (.aload_n 0, 1) := by decide +kernel
theorem dX1_rowHasPlots_1 : decode cX1_rowHasPlots 1 = .ok (.getfield 9, 3) := by decide +kernel
theorem dX1_rowHasPlots_4 : decode cX1_rowHasPlots 4 = .ok (.iload_n 1, 1) := by decide +kernel
theorem dX1_rowHasPlots_5 : decode cX1_rowHasPlots 5 = .ok (.iaload, 1) := by decide +kernel
theorem dX1_rowHasPlots_6 : decode cX1_rowHasPlots 6 = .ok (.aload_n 0, 1) := by decide +kernel
theorem dX1_rowHasPlots_7 : decode cX1_rowHasPlots 7 = .ok (.getfield 15, 3) := by decide +kernel
theorem dX1_rowHasPlots_10 : decode cX1_rowHasPlots 10 = .ok (.iload_n 1, 1) := by decide +kernel
theorem dX1_rowHasPlots_11 : decode cX1_rowHasPlots 11 = .ok (.iaload, 1) := by decide +kernel
theorem dX1_rowHasPlots_12 : decode cX1_rowHasPlots 12 = .ok (.if_icmp .gt 7, 3) := by decide +kernel
theorem dX1_rowHasPlots_15 : decode cX1_rowHasPlots 15 = .ok (.iconst 1, 1) := by decide +kernel
theorem dX1_rowHasPlots_16 : decode cX1_rowHasPlots 16 = .ok (.goto 4, 3) := by decide +kernel
theorem dX1_rowHasPlots_19 : decode cX1_rowHasPlots 19 = .ok (.iconst 0, 1) := by decide +kernel
theorem dX1_rowHasPlots_20 : decode cX1_rowHasPlots 20 = .ok (.ireturn, 1) := by decide +kernel
theorem dX1_hasPlot_0 : decode cX1_hasPlot 0 = .ok (.iload_n 1, 1) := by decide +kernel
theorem dX1_hasPlot_1 : decode cX1_hasPlot 1 = .ok (.aload_n 0, 1) := by decide +kernel
theorem dX1_hasPlot_2 : decode cX1_hasPlot 2 = .ok (.getfield 9, 3) := by decide +kernel
theorem dX1_hasPlot_5 : decode cX1_hasPlot 5 = .ok (.iload_n 2, 1) := by decide +kernel
theorem dX1_hasPlot_6 : decode cX1_hasPlot 6 = .ok (.iaload, 1) := by decide +kernel
theorem dX1_hasPlot_7 : decode cX1_hasPlot 7 = .ok (.if_icmp .lt 17, 3) := by decide +kernel
theorem dX1_hasPlot_10 : decode cX1_hasPlot 10 = .ok (.iload_n 1, 1) := by decide +kernel
theorem dX1_hasPlot_11 : decode cX1_hasPlot 11 = .ok (.aload_n 0, 1) := by decide +kernel
theorem dX1_hasPlot_12 : decode cX1_hasPlot 12 = .ok (.getfield 15, 3) := by decide +kernel
theorem dX1_hasPlot_15 : decode cX1_hasPlot 15 = .ok (.iload_n 2, 1) := by decide +kernel
theorem dX1_hasPlot_16 : decode cX1_hasPlot 16 = .ok (.iaload, 1) := by decide +kernel
theorem dX1_hasPlot_17 : decode cX1_hasPlot 17 = .ok (.if_icmp .gt 7, 3) := by decide +kernel
theorem dX1_hasPlot_20 : decode cX1_hasPlot 20 = .ok (.iconst 1, 1) := by decide +kernel
theorem dX1_hasPlot_21 : decode cX1_hasPlot 21 = .ok (.goto 4, 3) := by decide +kernel
theorem dX1_hasPlot_24 : decode cX1_hasPlot 24 = .ok (.iconst 0, 1) := by decide +kernel
theorem dX1_hasPlot_25 : decode cX1_hasPlot 25 = .ok (.ireturn, 1) := by decide +kernel
set_option maxRecDepth 20000 in
theorem ggX1_plotCount_X1_rowHasPlots : GoodIn wsX1_plotCount wsX1_rowHasPlots := goodIn_r _ [7, 2, 1, 8, 9, 10, 11, 12, 13, 14, 15] (by decide +kernel) (by decide +kernel)
set_option maxRecDepth 20000 in
theorem gX1_plotCount_X1_rowHasPlots : GoodIn wsX1_plotCount (wsV RX1 44 RX1 yX1_rowHasPlots wsX1_rowHasPlots) := goodIn_app (goodIn_of _ (by decide +kernel)) ggX1_plotCount_X1_rowHasPlots
theorem dX1_plotCount_0 : decode cX1_plotCount 0 = .ok (.iconst 0, 1) := by decide +kernel
theorem dX1_plotCount_1 : decode cX1_plotCount 1 = .ok (.istore_n 1, 1) := by decide +kernel
theorem dX1_plotCount_2 : decode cX1_plotCount 2 = .ok (.iconst 0, 1) := by decide +kernel
theorem dX1_plotCount_3 : decode cX1_plotCount 3 = .ok (.istore_n 2, 1) := by decide +kernel
theorem dX1_plotCount_4 : decode cX1_plotCount 4 = .ok (.iload_n 2, 1) := by decide +kernel
theorem dX1_plotCount_5 : decode cX1_plotCount 5 = .ok (.bipush 16, 2) := by decide +kernel
theorem dX1_plotCount_7 : decode cX1_plotCount 7 = .ok (.if_icmp .ge 35, 3) := by decide +kernel
theorem dX1_plotCount_10 : decode cX1_plotCount 10 = .ok (.aload_n 0, 1) := by decide +kernel
theorem dX1_plotCount_11 : decode cX1_plotCount 11 = .ok (.iload_n 2, 1) := by decide +kernel
theorem dX1_plotCount_12 : decode cX1_plotCount 12 = .ok (.invokevirtual 44, 3) := by decide +kernel
theorem dX1_plotCount_15 : decode cX1_plotCount 15 = .ok (.ifCond .eq 21, 3) := by decide +kernel
theorem dX1_plotCount_18 : decode cX1_plotCount 18 = .ok (.iload_n 1, 1) := by decide +kernel
theorem dX1_plotCount_19 : decode cX1_plotCount 19 = .ok (.aload_n 0, 1) := by decide +kernel
theorem dX1_plotCount_20 : decode cX1_plotCount 20 = .ok (.getfield 15, 3) := by decide +kernel
theorem dX1_plotCount_23 : decode cX1_plotCount 23 = .ok (.iload_n 2, 1) := by decide +kernel
theorem dX1_plotCount_24 : decode cX1_plotCount 24 = .ok (.iaload, 1) := by decide +kernel
theorem dX1_plotCount_25 : decode cX1_plotCount 25 = .ok (.aload_n 0, 1) := by decide +kernel
theorem dX1_plotCount_26 : decode cX1_plotCount 26 = .ok (.getfield 9, 3) := by decide +kernel
theorem dX1_plotCount_29 : decode cX1_plotCount 29 = .ok (.iload_n 2, 1) := by decide +kernel
theorem dX1_plotCount_30 : decode cX1_plotCount 30 = .ok (.iaload, 1) := by decide +kernel
theorem dX1_plotCount_31 : decode cX1_plotCount 31 = .ok (.isub, 1) := by decide +kernel
theorem dX1_plotCount_32 : decode cX1_plotCount 32 = .ok (.iconst 1, 1) := by decide +kernel
theorem dX1_plotCount_33 : decode cX1_plotCount 33 = .ok (.iadd, 1) := by decide +kernel
theorem dX1_plotCount_34 : decode cX1_plotCount 34 = .ok (.iadd, 1) := by decide +kernel
theorem dX1_plotCount_35 : decode cX1_plotCount 35 = .ok (.istore_n 1, 1) := by decide +kernel
theorem dX1_plotCount_36 : decode cX1_plotCount 36 = .ok (.iinc 2 1, 3) := by decide +kernel
theorem dX1_plotCount_39 : decode cX1_plotCount 39 = .ok (.goto (-35), 3) := by decide +kernel
theorem dX1_plotCount_42 : decode cX1_plotCount 42 = .ok (.iload_n 1, 1) := by decide +kernel
theorem dX1_plotCount_43 : decode cX1_plotCount 43 = .ok (.ireturn, 1) := by decide +kernel
theorem dX1_knows_0 : decode cX1_knows 0 = .ok (.iload_n 1, 1) := by decide +kernel
theorem dX1_knows_1 : decode cX1_knows 1 = .ok (.ifCond .lt 15, 3) := by decide +kernel
theorem dX1_knows_4 : decode cX1_knows 4 = .ok (.iload_n 1, 1) := by decide +kernel
theorem dX1_knows_5 : decode cX1_knows 5 = .ok (.aload_n 0, 1) := by decide +kernel
theorem dX1_knows_6 : decode cX1_knows 6 = .ok (.getfield 18, 3) := by decide +kernel
theorem dX1_knows_9 : decode cX1_knows 9 = .ok (.if_icmp .ge 7, 3) := by decide +kernel
theorem dX1_knows_12 : decode cX1_knows 12 = .ok (.iconst 1, 1) := by decide +kernel
theorem dX1_knows_13 : decode cX1_knows 13 = .ok (.goto 4, 3) := by decide +kernel
theorem dX1_knows_16 : decode cX1_knows 16 = .ok (.iconst 0, 1) := by decide +kernel
theorem dX1_knows_17 : decode cX1_knows 17 = .ok (.ireturn, 1) := by decide +kernel
theorem dX1_gaugeAt_0 : decode cX1_gaugeAt 0 = .ok (.iconst 0, 1) := by decide +kernel
theorem dX1_gaugeAt_1 : decode cX1_gaugeAt 1 = .ok (.istore_n 3, 1) := by decide +kernel
theorem dX1_gaugeAt_2 : decode cX1_gaugeAt 2 = .ok (.iload_n 3, 1) := by decide +kernel
theorem dX1_gaugeAt_3 : decode cX1_gaugeAt 3 = .ok (.aload_n 0, 1) := by decide +kernel
theorem dX1_gaugeAt_4 : decode cX1_gaugeAt 4 = .ok (.getfield 18, 3) := by decide +kernel
theorem dX1_gaugeAt_7 : decode cX1_gaugeAt 7 = .ok (.if_icmp .ge 31, 3) := by decide +kernel
theorem dX1_gaugeAt_10 : decode cX1_gaugeAt 10 = .ok (.aload_n 0, 1) := by decide +kernel
theorem dX1_gaugeAt_11 : decode cX1_gaugeAt 11 = .ok (.getfield 22, 3) := by decide +kernel
theorem dX1_gaugeAt_14 : decode cX1_gaugeAt 14 = .ok (.iload_n 3, 1) := by decide +kernel
theorem dX1_gaugeAt_15 : decode cX1_gaugeAt 15 = .ok (.iaload, 1) := by decide +kernel
theorem dX1_gaugeAt_16 : decode cX1_gaugeAt 16 = .ok (.iload_n 1, 1) := by decide +kernel
theorem dX1_gaugeAt_17 : decode cX1_gaugeAt 17 = .ok (.if_icmp .ne 15, 3) := by decide +kernel
theorem dX1_gaugeAt_20 : decode cX1_gaugeAt 20 = .ok (.aload_n 0, 1) := by decide +kernel
theorem dX1_gaugeAt_21 : decode cX1_gaugeAt 21 = .ok (.getfield 25, 3) := by decide +kernel
theorem dX1_gaugeAt_24 : decode cX1_gaugeAt 24 = .ok (.iload_n 3, 1) := by decide +kernel
theorem dX1_gaugeAt_25 : decode cX1_gaugeAt 25 = .ok (.iaload, 1) := by decide +kernel
theorem dX1_gaugeAt_26 : decode cX1_gaugeAt 26 = .ok (.iload_n 2, 1) := by decide +kernel
theorem dX1_gaugeAt_27 : decode cX1_gaugeAt 27 = .ok (.if_icmp .ne 5, 3) := by decide +kernel
theorem dX1_gaugeAt_30 : decode cX1_gaugeAt 30 = .ok (.iload_n 3, 1) := by decide +kernel
theorem dX1_gaugeAt_31 : decode cX1_gaugeAt 31 = .ok (.ireturn, 1) := by decide +kernel
theorem dX1_gaugeAt_32 : decode cX1_gaugeAt 32 = .ok (.iinc 3 1, 3) := by decide +kernel
theorem dX1_gaugeAt_35 : decode cX1_gaugeAt 35 = .ok (.goto (-33), 3) := by decide +kernel
theorem dX1_gaugeAt_38 : decode cX1_gaugeAt 38 = .ok (.iconst (-1), 1) := by decide +kernel
theorem dX1_gaugeAt_39 : decode cX1_gaugeAt 39 = .ok (.ireturn, 1) := by decide +kernel
theorem dX1_farFrom_0 : decode cX1_farFrom 0 = .ok (.iload_n 2, 1) := by decide +kernel
theorem dX1_farFrom_1 : decode cX1_farFrom 1 = .ok (.aload_n 0, 1) := by decide +kernel
theorem dX1_farFrom_2 : decode cX1_farFrom 2 = .ok (.getfield 22, 3) := by decide +kernel
theorem dX1_farFrom_5 : decode cX1_farFrom 5 = .ok (.iload_n 1, 1) := by decide +kernel
theorem dX1_farFrom_6 : decode cX1_farFrom 6 = .ok (.iaload, 1) := by decide +kernel
theorem dX1_farFrom_7 : decode cX1_farFrom 7 = .ok (.isub, 1) := by decide +kernel
theorem dX1_farFrom_8 : decode cX1_farFrom 8 = .ok (.istore 4, 2) := by decide +kernel
theorem dX1_farFrom_10 : decode cX1_farFrom 10 = .ok (.iload_n 3, 1) := by decide +kernel
theorem dX1_farFrom_11 : decode cX1_farFrom 11 = .ok (.aload_n 0, 1) := by decide +kernel
theorem dX1_farFrom_12 : decode cX1_farFrom 12 = .ok (.getfield 25, 3) := by decide +kernel
theorem dX1_farFrom_15 : decode cX1_farFrom 15 = .ok (.iload_n 1, 1) := by decide +kernel
theorem dX1_farFrom_16 : decode cX1_farFrom 16 = .ok (.iaload, 1) := by decide +kernel
theorem dX1_farFrom_17 : decode cX1_farFrom 17 = .ok (.isub, 1) := by decide +kernel
theorem dX1_farFrom_18 : decode cX1_farFrom 18 = .ok (.istore 5, 2) := by decide +kernel
theorem dX1_farFrom_20 : decode cX1_farFrom 20 = .ok (.iload 4, 2) := by decide +kernel
theorem dX1_farFrom_22 : decode cX1_farFrom 22 = .ok (.iload 4, 2) := by decide +kernel
theorem dX1_farFrom_24 : decode cX1_farFrom 24 = .ok (.imul, 1) := by decide +kernel
theorem dX1_farFrom_25 : decode cX1_farFrom 25 = .ok (.iload 5, 2) := by decide +kernel
theorem dX1_farFrom_27 : decode cX1_farFrom 27 = .ok (.iload 5, 2) := by decide +kernel
theorem dX1_farFrom_29 : decode cX1_farFrom 29 = .ok (.imul, 1) := by decide +kernel
theorem dX1_farFrom_30 : decode cX1_farFrom 30 = .ok (.iadd, 1) := by decide +kernel
theorem dX1_farFrom_31 : decode cX1_farFrom 31 = .ok (.ireturn, 1) := by decide +kernel
theorem dX1_putOut_0 : decode cX1_putOut 0 = .ok (.lconst 1, 1) := by decide +kernel
theorem dX1_putOut_1 : decode cX1_putOut 1 = .ok (.iload_n 2, 1) := by decide +kernel
theorem dX1_putOut_2 : decode cX1_putOut 2 = .ok (.lshl, 1) := by decide +kernel
theorem dX1_putOut_3 : decode cX1_putOut 3 = .ok (.lstore 4, 2) := by decide +kernel
theorem dX1_putOut_5 : decode cX1_putOut 5 = .ok (.aload_n 0, 1) := by decide +kernel
theorem dX1_putOut_6 : decode cX1_putOut 6 = .ok (.getfield 31, 3) := by decide +kernel
theorem dX1_putOut_9 : decode cX1_putOut 9 = .ok (.iload_n 1, 1) := by decide +kernel
theorem dX1_putOut_10 : decode cX1_putOut 10 = .ok (.iload_n 3, 1) := by decide +kernel
theorem dX1_putOut_11 : decode cX1_putOut 11 = .ok (.ifCond .eq 15, 3) := by decide +kernel
theorem dX1_putOut_14 : decode cX1_putOut 14 = .ok (.aload_n 0, 1) := by decide +kernel
theorem dX1_putOut_15 : decode cX1_putOut 15 = .ok (.getfield 31, 3) := by decide +kernel
theorem dX1_putOut_18 : decode cX1_putOut 18 = .ok (.iload_n 1, 1) := by decide +kernel
theorem dX1_putOut_19 : decode cX1_putOut 19 = .ok (.laload, 1) := by decide +kernel
theorem dX1_putOut_20 : decode cX1_putOut 20 = .ok (.lload 4, 2) := by decide +kernel
theorem dX1_putOut_22 : decode cX1_putOut 22 = .ok (.lor, 1) := by decide +kernel
theorem dX1_putOut_23 : decode cX1_putOut 23 = .ok (.goto 16, 3) := by decide +kernel
theorem dX1_putOut_26 : decode cX1_putOut 26 = .ok (.aload_n 0, 1) := by decide +kernel
theorem dX1_putOut_27 : decode cX1_putOut 27 = .ok (.getfield 31, 3) := by decide +kernel
theorem dX1_putOut_30 : decode cX1_putOut 30 = .ok (.iload_n 1, 1) := by decide +kernel
theorem dX1_putOut_31 : decode cX1_putOut 31 = .ok (.laload, 1) := by decide +kernel
theorem dX1_putOut_32 : decode cX1_putOut 32 = .ok (.lload 4, 2) := by decide +kernel
theorem dX1_putOut_34 : decode cX1_putOut 34 = .ok (.ldc2_w 48, 3) := by decide +kernel
theorem dX1_putOut_37 : decode cX1_putOut 37 = .ok (.lxor, 1) := by decide +kernel
theorem dX1_putOut_38 : decode cX1_putOut 38 = .ok (.land, 1) := by decide +kernel
theorem dX1_putOut_39 : decode cX1_putOut 39 = .ok (.lastore, 1) := by decide +kernel
theorem dX1_putOut_40 : decode cX1_putOut 40 = .ok (.return_, 1) := by decide +kernel
set_option maxRecDepth 20000 in
theorem ggX1_daysOut_J13_bitCount_95d88 : GoodIn wsX1_daysOut wsJ13_bitCount_95d88 := goodIn_r _ [5, 6, 7, 8] (by decide +kernel) (by decide +kernel)
set_option maxRecDepth 20000 in
theorem gX1_daysOut_J13_bitCount_95d88 : GoodIn wsX1_daysOut (va_wsS RX1 50 yJ13_bitCount_95d88 wsJ13_bitCount_95d88) := goodIn_app (goodIn_of _ (by decide +kernel)) ggX1_daysOut_J13_bitCount_95d88
theorem dX1_daysOut_0 : decode cX1_daysOut 0 = .ok (.aload_n 0, 1) := by decide +kernel
theorem dX1_daysOut_1 : decode cX1_daysOut 1 = .ok (.getfield 31, 3) := by decide +kernel
theorem dX1_daysOut_4 : decode cX1_daysOut 4 = .ok (.iload_n 1, 1) := by decide +kernel
theorem dX1_daysOut_5 : decode cX1_daysOut 5 = .ok (.laload, 1) := by decide +kernel
theorem dX1_daysOut_6 : decode cX1_daysOut 6 = .ok (.invokestatic 50, 3) := by decide +kernel
theorem dX1_daysOut_9 : decode cX1_daysOut 9 = .ok (.ireturn, 1) := by decide +kernel
set_option maxRecDepth 20000 in
theorem ggX1_daysRead_X1_readingOf : GoodIn wsX1_daysRead wsX1_readingOf := goodIn_r _ [5, 6, 7, 8, 9, 10, 11, 12, 13, 14] (by decide +kernel) (by decide +kernel)
set_option maxRecDepth 20000 in
theorem gX1_daysRead_X1_readingOf : GoodIn wsX1_daysRead (wsV RX1 56 RX1 yX1_readingOf wsX1_readingOf) := goodIn_app (goodIn_of _ (by decide +kernel)) ggX1_daysRead_X1_readingOf
theorem dX1_daysRead_0 : decode cX1_daysRead 0 = .ok (.iconst 0, 1) := by decide +kernel
theorem dX1_daysRead_1 : decode cX1_daysRead 1 = .ok (.istore_n 2, 1) := by decide +kernel
theorem dX1_daysRead_2 : decode cX1_daysRead 2 = .ok (.iconst 0, 1) := by decide +kernel
theorem dX1_daysRead_3 : decode cX1_daysRead 3 = .ok (.istore_n 3, 1) := by decide +kernel
theorem dX1_daysRead_4 : decode cX1_daysRead 4 = .ok (.iload_n 3, 1) := by decide +kernel
theorem dX1_daysRead_5 : decode cX1_daysRead 5 = .ok (.bipush 64, 2) := by decide +kernel
theorem dX1_daysRead_7 : decode cX1_daysRead 7 = .ok (.if_icmp .ge 23, 3) := by decide +kernel
theorem dX1_daysRead_10 : decode cX1_daysRead 10 = .ok (.aload_n 0, 1) := by decide +kernel
theorem dX1_daysRead_11 : decode cX1_daysRead 11 = .ok (.iload_n 1, 1) := by decide +kernel
theorem dX1_daysRead_12 : decode cX1_daysRead 12 = .ok (.iload_n 3, 1) := by decide +kernel
theorem dX1_daysRead_13 : decode cX1_daysRead 13 = .ok (.invokevirtual 56, 3) := by decide +kernel
theorem dX1_daysRead_16 : decode cX1_daysRead 16 = .ok (.bipush (-6), 2) := by decide +kernel
theorem dX1_daysRead_18 : decode cX1_daysRead 18 = .ok (.if_icmp .eq 6, 3) := by decide +kernel
theorem dX1_daysRead_21 : decode cX1_daysRead 21 = .ok (.iinc 2 1, 3) := by decide +kernel
theorem dX1_daysRead_24 : decode cX1_daysRead 24 = .ok (.iinc 3 1, 3) := by decide +kernel
theorem dX1_daysRead_27 : decode cX1_daysRead 27 = .ok (.goto (-23), 3) := by decide +kernel
theorem dX1_daysRead_30 : decode cX1_daysRead 30 = .ok (.iload_n 2, 1) := by decide +kernel
theorem dX1_daysRead_31 : decode cX1_daysRead 31 = .ok (.ireturn, 1) := by decide +kernel
theorem dX1_readingOf_0 : decode cX1_readingOf 0 = .ok (.aload_n 0, 1) := by decide +kernel
theorem dX1_readingOf_1 : decode cX1_readingOf 1 = .ok (.getfield 35, 3) := by decide +kernel
theorem dX1_readingOf_4 : decode cX1_readingOf 4 = .ok (.iload_n 1, 1) := by decide +kernel
theorem dX1_readingOf_5 : decode cX1_readingOf 5 = .ok (.bipush 64, 2) := by decide +kernel
theorem dX1_readingOf_7 : decode cX1_readingOf 7 = .ok (.imul, 1) := by decide +kernel
theorem dX1_readingOf_8 : decode cX1_readingOf 8 = .ok (.iload_n 2, 1) := by decide +kernel
theorem dX1_readingOf_9 : decode cX1_readingOf 9 = .ok (.iadd, 1) := by decide +kernel
theorem dX1_readingOf_10 : decode cX1_readingOf 10 = .ok (.iaload, 1) := by decide +kernel
theorem dX1_readingOf_11 : decode cX1_readingOf 11 = .ok (.ireturn, 1) := by decide +kernel
theorem dX1_putReading_0 : decode cX1_putReading 0 = .ok (.aload_n 0, 1) := by decide +kernel
theorem dX1_putReading_1 : decode cX1_putReading 1 = .ok (.getfield 35, 3) := by decide +kernel
theorem dX1_putReading_4 : decode cX1_putReading 4 = .ok (.iload_n 1, 1) := by decide +kernel
theorem dX1_putReading_5 : decode cX1_putReading 5 = .ok (.bipush 64, 2) := by decide +kernel
theorem dX1_putReading_7 : decode cX1_putReading 7 = .ok (.imul, 1) := by decide +kernel
theorem dX1_putReading_8 : decode cX1_putReading 8 = .ok (.iload_n 2, 1) := by decide +kernel
theorem dX1_putReading_9 : decode cX1_putReading 9 = .ok (.iadd, 1) := by decide +kernel
theorem dX1_putReading_10 : decode cX1_putReading 10 = .ok (.iload_n 3, 1) := by decide +kernel
theorem dX1_putReading_11 : decode cX1_putReading 11 = .ok (.iastore, 1) := by decide +kernel
theorem dX1_putReading_12 : decode cX1_putReading 12 = .ok (.return_, 1) := by decide +kernel
set_option maxRecDepth 20000 in
theorem ggX1_workingOn_X1_readingOf : GoodIn wsX1_workingOn wsX1_readingOf := goodIn_r _ [7, 8, 12, 13, 14, 15, 16, 17, 18, 19] (by decide +kernel) (by decide +kernel)
set_option maxRecDepth 20000 in
theorem gX1_workingOn_X1_readingOf : GoodIn wsX1_workingOn (wsV RX1 56 RX1 yX1_readingOf wsX1_readingOf) := goodIn_app (goodIn_of _ (by decide +kernel)) ggX1_workingOn_X1_readingOf
set_option maxRecDepth 20000 in
theorem ggX1_workingOn_X4_with : GoodIn wsX1_workingOn wsX4_with := goodIn_r _ [11] (by decide +kernel) (by decide +kernel)
set_option maxRecDepth 20000 in
theorem gX1_workingOn_X4_with_n60 : GoodIn wsX1_workingOn (wsX4_with) := ggX1_workingOn_X4_with
theorem dX1_workingOn_0 : decode cX1_workingOn 0 = .ok (.iconst 0, 1) := by decide +kernel
theorem dX1_workingOn_1 : decode cX1_workingOn 1 = .ok (.istore_n 2, 1) := by decide +kernel
theorem dX1_workingOn_2 : decode cX1_workingOn 2 = .ok (.iconst 0, 1) := by decide +kernel
theorem dX1_workingOn_3 : decode cX1_workingOn 3 = .ok (.istore_n 3, 1) := by decide +kernel
theorem dX1_workingOn_4 : decode cX1_workingOn 4 = .ok (.iload_n 3, 1) := by decide +kernel
theorem dX1_workingOn_5 : decode cX1_workingOn 5 = .ok (.aload_n 0, 1) := by decide +kernel
theorem dX1_workingOn_6 : decode cX1_workingOn 6 = .ok (.getfield 18, 3) := by decide +kernel
theorem dX1_workingOn_9 : decode cX1_workingOn 9 = .ok (.if_icmp .ge 53, 3) := by decide +kernel
theorem dX1_workingOn_12 : decode cX1_workingOn 12 = .ok (.aload_n 0, 1) := by decide +kernel
theorem dX1_workingOn_13 : decode cX1_workingOn 13 = .ok (.getfield 31, 3) := by decide +kernel
theorem dX1_workingOn_16 : decode cX1_workingOn 16 = .ok (.iload_n 3, 1) := by decide +kernel
theorem dX1_workingOn_17 : decode cX1_workingOn 17 = .ok (.laload, 1) := by decide +kernel
theorem dX1_workingOn_18 : decode cX1_workingOn 18 = .ok (.lconst 1, 1) := by decide +kernel
theorem dX1_workingOn_19 : decode cX1_workingOn 19 = .ok (.iload_n 1, 1) := by decide +kernel
theorem dX1_workingOn_20 : decode cX1_workingOn 20 = .ok (.lshl, 1) := by decide +kernel
theorem dX1_workingOn_21 : decode cX1_workingOn 21 = .ok (.land, 1) := by decide +kernel
theorem dX1_workingOn_22 : decode cX1_workingOn 22 = .ok (.lconst 0, 1) := by decide +kernel
theorem dX1_workingOn_23 : decode cX1_workingOn 23 = .ok (.lcmp, 1) := by decide +kernel
theorem dX1_workingOn_24 : decode cX1_workingOn 24 = .ok (.ifCond .eq 7, 3) := by decide +kernel
theorem dX1_workingOn_27 : decode cX1_workingOn 27 = .ok (.iconst 1, 1) := by decide +kernel
theorem dX1_workingOn_28 : decode cX1_workingOn 28 = .ok (.goto 4, 3) := by decide +kernel
theorem dX1_workingOn_31 : decode cX1_workingOn 31 = .ok (.iconst 0, 1) := by decide +kernel
theorem dX1_workingOn_32 : decode cX1_workingOn 32 = .ok (.istore 4, 2) := by decide +kernel
theorem dX1_workingOn_34 : decode cX1_workingOn 34 = .ok (.iload 4, 2) := by decide +kernel
theorem dX1_workingOn_36 : decode cX1_workingOn 36 = .ok (.ifCond .ne 20, 3) := by decide +kernel
theorem dX1_workingOn_39 : decode cX1_workingOn 39 = .ok (.aload_n 0, 1) := by decide +kernel
theorem dX1_workingOn_40 : decode cX1_workingOn 40 = .ok (.iload_n 3, 1) := by decide +kernel
theorem dX1_workingOn_41 : decode cX1_workingOn 41 = .ok (.iload_n 1, 1) := by decide +kernel
theorem dX1_workingOn_42 : decode cX1_workingOn 42 = .ok (.invokevirtual 56, 3) := by decide +kernel
theorem dX1_workingOn_45 : decode cX1_workingOn 45 = .ok (.bipush (-6), 2) := by decide +kernel
theorem dX1_workingOn_47 : decode cX1_workingOn 47 = .ok (.if_icmp .eq 9, 3) := by decide +kernel
theorem dX1_workingOn_50 : decode cX1_workingOn 50 = .ok (.iload_n 2, 1) := by decide +kernel
theorem dX1_workingOn_51 : decode cX1_workingOn 51 = .ok (.iload_n 3, 1) := by decide +kernel
theorem dX1_workingOn_52 : decode cX1_workingOn 52 = .ok (.invokestatic 60, 3) := by decide +kernel
theorem dX1_workingOn_55 : decode cX1_workingOn 55 = .ok (.istore_n 2, 1) := by decide +kernel
theorem dX1_workingOn_56 : decode cX1_workingOn 56 = .ok (.iinc 3 1, 3) := by decide +kernel
theorem dX1_workingOn_59 : decode cX1_workingOn 59 = .ok (.goto (-55), 3) := by decide +kernel
theorem dX1_workingOn_62 : decode cX1_workingOn 62 = .ok (.iload_n 2, 1) := by decide +kernel
theorem dX1_workingOn_63 : decode cX1_workingOn 63 = .ok (.ireturn, 1) := by decide +kernel
set_option maxRecDepth 20000 in
theorem ggX2_init_X0_init : GoodIn wsX2_init wsX0_init := goodIn_r _ [19, 20, 2, 3, 21, 12, 22, 23, 24, 33, 34, 35, 36] (by decide +kernel) (by decide +kernel)
set_option maxRecDepth 20000 in
theorem gX2_init_X0_init : GoodIn wsX2_init (wsX0_init) := ggX2_init_X0_init
theorem dX2_init_0 : decode cX2_init 0 = .ok (.aload_n 0, 1) := by decide +kernel
theorem dX2_init_1 : decode cX2_init 1 = .ok (.invokespecial 3, 3) := by decide +kernel
theorem dX2_init_4 : decode cX2_init 4 = .ok (.aload_n 0, 1) := by decide +kernel
theorem dX2_init_5 : decode cX2_init 5 = .ok (.ldc 9, 2) := by decide +kernel
theorem dX2_init_7 : decode cX2_init 7 = .ok (.putfield 10, 3) := by decide +kernel
theorem dX2_init_10 : decode cX2_init 10 = .ok (.aload_n 0, 1) := by decide +kernel
theorem dX2_init_11 : decode cX2_init 11 = .ok (.iconst 0, 1) := by decide +kernel
theorem dX2_init_12 : decode cX2_init 12 = .ok (.putfield 16, 3) := by decide +kernel
theorem dX2_init_15 : decode cX2_init 15 = .ok (.aload_n 0, 1) := by decide +kernel
theorem dX2_init_16 : decode cX2_init 16 = .ok (.iconst 0, 1) := by decide +kernel
theorem dX2_init_17 : decode cX2_init 17 = .ok (.putfield 19, 3) := by decide +kernel
theorem dX2_init_20 : decode cX2_init 20 = .ok (.aload_n 0, 1) := by decide +kernel
theorem dX2_init_21 : decode cX2_init 21 = .ok (.new 22, 3) := by decide +kernel
theorem dX2_init_24 : decode cX2_init 24 = .ok (.dup, 1) := by decide +kernel
theorem dX2_init_25 : decode cX2_init 25 = .ok (.invokespecial 24, 3) := by decide +kernel
theorem dX2_init_28 : decode cX2_init 28 = .ok (.putfield 25, 3) := by decide +kernel
theorem dX2_init_31 : decode cX2_init 31 = .ok (.aload_n 0, 1) := by decide +kernel
theorem dX2_init_32 : decode cX2_init 32 = .ok (.sipush 256, 3) := by decide +kernel
theorem dX2_init_35 : decode cX2_init 35 = .ok (.newarray .int, 2) := by decide +kernel
theorem dX2_init_37 : decode cX2_init 37 = .ok (.putfield 29, 3) := by decide +kernel
theorem dX2_init_40 : decode cX2_init 40 = .ok (.aload_n 0, 1) := by decide +kernel
theorem dX2_init_41 : decode cX2_init 41 = .ok (.sipush 256, 3) := by decide +kernel
theorem dX2_init_44 : decode cX2_init 44 = .ok (.newarray .int, 2) := by decide +kernel
theorem dX2_init_46 : decode cX2_init 46 = .ok (.putfield 33, 3) := by decide +kernel
theorem dX2_init_49 : decode cX2_init 49 = .ok (.aload_n 0, 1) := by decide +kernel
theorem dX2_init_50 : decode cX2_init 50 = .ok (.bipush 16, 2) := by decide +kernel
theorem dX2_init_52 : decode cX2_init 52 = .ok (.newarray .int, 2) := by decide +kernel
theorem dX2_init_54 : decode cX2_init 54 = .ok (.putfield 36, 3) := by decide +kernel
theorem dX2_init_57 : decode cX2_init 57 = .ok (.aload_n 0, 1) := by decide +kernel
theorem dX2_init_58 : decode cX2_init 58 = .ok (.bipush 16, 2) := by decide +kernel
theorem dX2_init_60 : decode cX2_init 60 = .ok (.newarray .int, 2) := by decide +kernel
theorem dX2_init_62 : decode cX2_init 62 = .ok (.putfield 39, 3) := by decide +kernel
theorem dX2_init_65 : decode cX2_init 65 = .ok (.return_, 1) := by decide +kernel
set_option maxRecDepth 20000 in
theorem ggX2_run_X0_workOut : GoodIn wsX2_run wsX0_workOut := goodIn_r _ [11, 12, 13, 14, 15, 16, 17, 18, 19, 20, 21, 22, 23, 24, 10, 25, 26, 27, 28, 29, 79, 80, 81, 82, 71, 72, 73, 74, 75, 76, 77, 78] (by decide +kernel) (by decide +kernel)
set_option maxRecDepth 20000 in
theorem gX2_run_X0_workOut : GoodIn wsX2_run (wsV RX2 42 RX0 yX0_workOut wsX0_workOut) := goodIn_app (goodIn_of _ (by decide +kernel)) ggX2_run_X0_workOut
set_option maxRecDepth 20000 in
theorem ggX2_run_X2_readRow : GoodIn wsX2_run wsX2_readRow := goodIn_r _ [34, 35, 36, 37, 5, 6, 1, 38, 39, 2, 40, 41, 42, 43, 44, 63, 64, 65, 66, 67, 68, 69, 70, 71, 72, 73, 74, 75, 76, 77, 78, 79, 80, 81, 82] (by decide +kernel) (by decide +kernel)
set_option maxRecDepth 20000 in
theorem gX2_run_X2_readRow : GoodIn wsX2_run (wsV RX2 46 RX2 yX2_readRow wsX2_readRow) := goodIn_app (goodIn_of _ (by decide +kernel)) ggX2_run_X2_readRow
set_option maxRecDepth 20000 in
theorem ggX2_run_X1_gaugeAt : GoodIn wsX2_run wsX1_gaugeAt := goodIn_r _ [49, 50, 51, 52, 71, 72, 73, 74, 75, 76, 77, 78] (by decide +kernel) (by decide +kernel)
set_option maxRecDepth 20000 in
theorem gX2_run_X1_gaugeAt : GoodIn wsX2_run (wsV RX2 58 RX1 yX1_gaugeAt wsX1_gaugeAt) := goodIn_app (goodIn_of _ (by decide +kernel)) ggX2_run_X1_gaugeAt
set_option maxRecDepth 20000 in
theorem ggX2_run_X2_tryAt : GoodIn wsX2_run wsX2_tryAt := goodIn_r _ [56, 4, 57, 58, 59, 60, 61, 33, 62, 35, 37, 5, 6, 2, 39, 63, 64, 65, 66, 67, 68, 69, 70, 71, 72, 73, 74, 75, 76, 77, 78] (by decide +kernel) (by decide +kernel)
set_option maxRecDepth 20000 in
theorem gX2_run_X2_tryAt : GoodIn wsX2_run (wsV RX2 62 RX2 yX2_tryAt wsX2_tryAt) := goodIn_app (goodIn_of _ (by decide +kernel)) ggX2_run_X2_tryAt
theorem dX2_run_0 : decode cX2_run 0 = .ok (.aload_n 0, 1) := by decide +kernel
theorem dX2_run_1 : decode cX2_run 1 = .ok (.getfield 25, 3) := by decide +kernel
theorem dX2_run_4 : decode cX2_run 4 = .ok (.aload_n 1, 1) := by decide +kernel
theorem dX2_run_5 : decode cX2_run 5 = .ok (.iload_n 2, 1) := by decide +kernel
theorem dX2_run_6 : decode cX2_run 6 = .ok (.aload_n 0, 1) := by decide +kernel
theorem dX2_run_7 : decode cX2_run 7 = .ok (.getfield 29, 3) := by decide +kernel
theorem dX2_run_10 : decode cX2_run 10 = .ok (.invokevirtual 42, 3) := by decide +kernel
theorem dX2_run_13 : decode cX2_run 13 = .ok (.iconst 0, 1) := by decide +kernel
theorem dX2_run_14 : decode cX2_run 14 = .ok (.istore_n 3, 1) := by decide +kernel
theorem dX2_run_15 : decode cX2_run 15 = .ok (.iload_n 3, 1) := by decide +kernel
theorem dX2_run_16 : decode cX2_run 16 = .ok (.bipush 16, 2) := by decide +kernel
theorem dX2_run_18 : decode cX2_run 18 = .ok (.if_icmp .ge 15, 3) := by decide +kernel
theorem dX2_run_21 : decode cX2_run 21 = .ok (.aload_n 0, 1) := by decide +kernel
theorem dX2_run_22 : decode cX2_run 22 = .ok (.aload_n 1, 1) := by decide +kernel
theorem dX2_run_23 : decode cX2_run 23 = .ok (.iload_n 3, 1) := by decide +kernel
theorem dX2_run_24 : decode cX2_run 24 = .ok (.invokevirtual 46, 3) := by decide +kernel
theorem dX2_run_27 : decode cX2_run 27 = .ok (.iinc 3 1, 3) := by decide +kernel
theorem dX2_run_30 : decode cX2_run 30 = .ok (.goto (-15), 3) := by decide +kernel
theorem dX2_run_33 : decode cX2_run 33 = .ok (.aload_n 0, 1) := by decide +kernel
theorem dX2_run_34 : decode cX2_run 34 = .ok (.ldc 9, 2) := by decide +kernel
theorem dX2_run_36 : decode cX2_run 36 = .ok (.putfield 10, 3) := by decide +kernel
theorem dX2_run_39 : decode cX2_run 39 = .ok (.iconst 0, 1) := by decide +kernel
theorem dX2_run_40 : decode cX2_run 40 = .ok (.istore_n 3, 1) := by decide +kernel
theorem dX2_run_41 : decode cX2_run 41 = .ok (.iload_n 3, 1) := by decide +kernel
theorem dX2_run_42 : decode cX2_run 42 = .ok (.bipush 16, 2) := by decide +kernel
theorem dX2_run_44 : decode cX2_run 44 = .ok (.if_icmp .ge 53, 3) := by decide +kernel
theorem dX2_run_47 : decode cX2_run 47 = .ok (.aload_n 1, 1) := by decide +kernel
theorem dX2_run_48 : decode cX2_run 48 = .ok (.getfield 50, 3) := by decide +kernel
theorem dX2_run_51 : decode cX2_run 51 = .ok (.iload_n 3, 1) := by decide +kernel
theorem dX2_run_52 : decode cX2_run 52 = .ok (.iaload, 1) := by decide +kernel
theorem dX2_run_53 : decode cX2_run 53 = .ok (.istore 4, 2) := by decide +kernel
theorem dX2_run_55 : decode cX2_run 55 = .ok (.iload 4, 2) := by decide +kernel
theorem dX2_run_57 : decode cX2_run 57 = .ok (.aload_n 1, 1) := by decide +kernel
theorem dX2_run_58 : decode cX2_run 58 = .ok (.getfield 55, 3) := by decide +kernel
theorem dX2_run_61 : decode cX2_run 61 = .ok (.iload_n 3, 1) := by decide +kernel
theorem dX2_run_62 : decode cX2_run 62 = .ok (.iaload, 1) := by decide +kernel
theorem dX2_run_63 : decode cX2_run 63 = .ok (.if_icmp .gt 28, 3) := by decide +kernel
theorem dX2_run_66 : decode cX2_run 66 = .ok (.aload_n 1, 1) := by decide +kernel
theorem dX2_run_67 : decode cX2_run 67 = .ok (.iload 4, 2) := by decide +kernel
theorem dX2_run_69 : decode cX2_run 69 = .ok (.iload_n 3, 1) := by decide +kernel
theorem dX2_run_70 : decode cX2_run 70 = .ok (.invokevirtual 58, 3) := by decide +kernel
theorem dX2_run_73 : decode cX2_run 73 = .ok (.iconst (-1), 1) := by decide +kernel
theorem dX2_run_74 : decode cX2_run 74 = .ok (.if_icmp .ne 11, 3) := by decide +kernel
theorem dX2_run_77 : decode cX2_run 77 = .ok (.aload_n 0, 1) := by decide +kernel
theorem dX2_run_78 : decode cX2_run 78 = .ok (.aload_n 1, 1) := by decide +kernel
theorem dX2_run_79 : decode cX2_run 79 = .ok (.iload 4, 2) := by decide +kernel
theorem dX2_run_81 : decode cX2_run 81 = .ok (.iload_n 3, 1) := by decide +kernel
theorem dX2_run_82 : decode cX2_run 82 = .ok (.invokevirtual 62, 3) := by decide +kernel
theorem dX2_run_85 : decode cX2_run 85 = .ok (.iinc 4 1, 3) := by decide +kernel
theorem dX2_run_88 : decode cX2_run 88 = .ok (.goto (-33), 3) := by decide +kernel
theorem dX2_run_91 : decode cX2_run 91 = .ok (.iinc 3 1, 3) := by decide +kernel
theorem dX2_run_94 : decode cX2_run 94 = .ok (.goto (-53), 3) := by decide +kernel
theorem dX2_run_97 : decode cX2_run 97 = .ok (.return_, 1) := by decide +kernel
theorem dX2_readRow_0 : decode cX2_readRow 0 = .ok (.aload_n 0, 1) := by decide +kernel
theorem dX2_readRow_1 : decode cX2_readRow 1 = .ok (.getfield 36, 3) := by decide +kernel
theorem dX2_readRow_4 : decode cX2_readRow 4 = .ok (.iload_n 2, 1) := by decide +kernel
theorem dX2_readRow_5 : decode cX2_readRow 5 = .ok (.ldc 66, 2) := by decide +kernel
theorem dX2_readRow_7 : decode cX2_readRow 7 = .ok (.iastore, 1) := by decide +kernel
theorem dX2_readRow_8 : decode cX2_readRow 8 = .ok (.aload_n 0, 1) := by decide +kernel
theorem dX2_readRow_9 : decode cX2_readRow 9 = .ok (.getfield 39, 3) := by decide +kernel
theorem dX2_readRow_12 : decode cX2_readRow 12 = .ok (.iload_n 2, 1) := by decide +kernel
theorem dX2_readRow_13 : decode cX2_readRow 13 = .ok (.iconst 0, 1) := by decide +kernel
theorem dX2_readRow_14 : decode cX2_readRow 14 = .ok (.iastore, 1) := by decide +kernel
theorem dX2_readRow_15 : decode cX2_readRow 15 = .ok (.aload_n 1, 1) := by decide +kernel
theorem dX2_readRow_16 : decode cX2_readRow 16 = .ok (.getfield 50, 3) := by decide +kernel
theorem dX2_readRow_19 : decode cX2_readRow 19 = .ok (.iload_n 2, 1) := by decide +kernel
theorem dX2_readRow_20 : decode cX2_readRow 20 = .ok (.iaload, 1) := by decide +kernel
theorem dX2_readRow_21 : decode cX2_readRow 21 = .ok (.istore_n 3, 1) := by decide +kernel
theorem dX2_readRow_22 : decode cX2_readRow 22 = .ok (.iload_n 3, 1) := by decide +kernel
theorem dX2_readRow_23 : decode cX2_readRow 23 = .ok (.aload_n 1, 1) := by decide +kernel
theorem dX2_readRow_24 : decode cX2_readRow 24 = .ok (.getfield 55, 3) := by decide +kernel
theorem dX2_readRow_27 : decode cX2_readRow 27 = .ok (.iload_n 2, 1) := by decide +kernel
theorem dX2_readRow_28 : decode cX2_readRow 28 = .ok (.iaload, 1) := by decide +kernel
theorem dX2_readRow_29 : decode cX2_readRow 29 = .ok (.if_icmp .gt 99, 3) := by decide +kernel
theorem dX2_readRow_32 : decode cX2_readRow 32 = .ok (.iload_n 2, 1) := by decide +kernel
theorem dX2_readRow_33 : decode cX2_readRow 33 = .ok (.bipush 16, 2) := by decide +kernel
theorem dX2_readRow_35 : decode cX2_readRow 35 = .ok (.imul, 1) := by decide +kernel
theorem dX2_readRow_36 : decode cX2_readRow 36 = .ok (.iload_n 3, 1) := by decide +kernel
theorem dX2_readRow_37 : decode cX2_readRow 37 = .ok (.iadd, 1) := by decide +kernel
theorem dX2_readRow_38 : decode cX2_readRow 38 = .ok (.istore 4, 2) := by decide +kernel
theorem dX2_readRow_40 : decode cX2_readRow 40 = .ok (.aload_n 0, 1) := by decide +kernel
theorem dX2_readRow_41 : decode cX2_readRow 41 = .ok (.getfield 25, 3) := by decide +kernel
theorem dX2_readRow_44 : decode cX2_readRow 44 = .ok (.getfield 67, 3) := by decide +kernel
theorem dX2_readRow_47 : decode cX2_readRow 47 = .ok (.iload 4, 2) := by decide +kernel
theorem dX2_readRow_49 : decode cX2_readRow 49 = .ok (.iaload, 1) := by decide +kernel
theorem dX2_readRow_50 : decode cX2_readRow 50 = .ok (.istore 5, 2) := by decide +kernel
theorem dX2_readRow_52 : decode cX2_readRow 52 = .ok (.aload_n 0, 1) := by decide +kernel
theorem dX2_readRow_53 : decode cX2_readRow 53 = .ok (.getfield 33, 3) := by decide +kernel
theorem dX2_readRow_56 : decode cX2_readRow 56 = .ok (.iload 4, 2) := by decide +kernel
theorem dX2_readRow_58 : decode cX2_readRow 58 = .ok (.iload 5, 2) := by decide +kernel
theorem dX2_readRow_60 : decode cX2_readRow 60 = .ok (.iconst (-1), 1) := by decide +kernel
theorem dX2_readRow_61 : decode cX2_readRow 61 = .ok (.if_icmp .ne 7, 3) := by decide +kernel
theorem dX2_readRow_64 : decode cX2_readRow 64 = .ok (.iconst 0, 1) := by decide +kernel
theorem dX2_readRow_65 : decode cX2_readRow 65 = .ok (.goto 18, 3) := by decide +kernel
theorem dX2_readRow_68 : decode cX2_readRow 68 = .ok (.aload_n 0, 1) := by decide +kernel
theorem dX2_readRow_69 : decode cX2_readRow 69 = .ok (.getfield 29, 3) := by decide +kernel
theorem dX2_readRow_72 : decode cX2_readRow 72 = .ok (.iload 4, 2) := by decide +kernel
theorem dX2_readRow_74 : decode cX2_readRow 74 = .ok (.iaload, 1) := by decide +kernel
theorem dX2_readRow_75 : decode cX2_readRow 75 = .ok (.aload_n 1, 1) := by decide +kernel
theorem dX2_readRow_76 : decode cX2_readRow 76 = .ok (.getfield 70, 3) := by decide +kernel
theorem dX2_readRow_79 : decode cX2_readRow 79 = .ok (.iload 5, 2) := by decide +kernel
theorem dX2_readRow_81 : decode cX2_readRow 81 = .ok (.iaload, 1) := by decide +kernel
theorem dX2_readRow_82 : decode cX2_readRow 82 = .ok (.iadd, 1) := by decide +kernel
theorem dX2_readRow_83 : decode cX2_readRow 83 = .ok (.iastore, 1) := by decide +kernel
theorem dX2_readRow_84 : decode cX2_readRow 84 = .ok (.aload_n 0, 1) := by decide +kernel
theorem dX2_readRow_85 : decode cX2_readRow 85 = .ok (.getfield 36, 3) := by decide +kernel
theorem dX2_readRow_88 : decode cX2_readRow 88 = .ok (.iload_n 2, 1) := by decide +kernel
theorem dX2_readRow_89 : decode cX2_readRow 89 = .ok (.aload_n 0, 1) := by decide +kernel
theorem dX2_readRow_90 : decode cX2_readRow 90 = .ok (.getfield 36, 3) := by decide +kernel
theorem dX2_readRow_93 : decode cX2_readRow 93 = .ok (.iload_n 2, 1) := by decide +kernel
theorem dX2_readRow_94 : decode cX2_readRow 94 = .ok (.iaload, 1) := by decide +kernel
theorem dX2_readRow_95 : decode cX2_readRow 95 = .ok (.aload_n 0, 1) := by decide +kernel
theorem dX2_readRow_96 : decode cX2_readRow 96 = .ok (.getfield 29, 3) := by decide +kernel
theorem dX2_readRow_99 : decode cX2_readRow 99 = .ok (.iload 4, 2) := by decide +kernel
theorem dX2_readRow_101 : decode cX2_readRow 101 = .ok (.iaload, 1) := by decide +kernel
theorem dX2_readRow_102 : decode cX2_readRow 102 = .ok (.invokestatic 73, 3) := by decide +kernel
theorem dX2_readRow_105 : decode cX2_readRow 105 = .ok (.iastore, 1) := by decide +kernel
theorem dX2_readRow_106 : decode cX2_readRow 106 = .ok (.aload_n 0, 1) := by decide +kernel
theorem dX2_readRow_107 : decode cX2_readRow 107 = .ok (.getfield 39, 3) := by decide +kernel
theorem dX2_readRow_110 : decode cX2_readRow 110 = .ok (.iload_n 2, 1) := by decide +kernel
theorem dX2_readRow_111 : decode cX2_readRow 111 = .ok (.dup2, 1) := by decide +kernel
theorem dX2_readRow_112 : decode cX2_readRow 112 = .ok (.iaload, 1) := by decide +kernel
theorem dX2_readRow_113 : decode cX2_readRow 113 = .ok (.aload_n 0, 1) := by decide +kernel
theorem dX2_readRow_114 : decode cX2_readRow 114 = .ok (.getfield 33, 3) := by decide +kernel
theorem dX2_readRow_117 : decode cX2_readRow 117 = .ok (.iload 4, 2) := by decide +kernel
theorem dX2_readRow_119 : decode cX2_readRow 119 = .ok (.iaload, 1) := by decide +kernel
theorem dX2_readRow_120 : decode cX2_readRow 120 = .ok (.iadd, 1) := by decide +kernel
theorem dX2_readRow_121 : decode cX2_readRow 121 = .ok (.iastore, 1) := by decide +kernel
theorem dX2_readRow_122 : decode cX2_readRow 122 = .ok (.iinc 3 1, 3) := by decide +kernel
theorem dX2_readRow_125 : decode cX2_readRow 125 = .ok (.goto (-103), 3) := by decide +kernel
theorem dX2_readRow_128 : decode cX2_readRow 128 = .ok (.return_, 1) := by decide +kernel
set_option maxRecDepth 20000 in
theorem ggX2_tryAt_X2_farOfRow : GoodIn wsX2_tryAt wsX2_farOfRow := goodIn_r _ [8, 9, 10, 11, 12, 13, 14, 15, 16, 17, 18, 19, 20, 21, 22, 23, 24, 25, 26, 27, 28, 29, 30] (by decide +kernel) (by decide +kernel)
set_option maxRecDepth 20000 in
theorem gX2_tryAt_X2_farOfRow : GoodIn wsX2_tryAt (wsV RX2 78 RX2 yX2_farOfRow wsX2_farOfRow) := goodIn_app (goodIn_of _ (by decide +kernel)) ggX2_tryAt_X2_farOfRow
theorem dX2_tryAt_0 : decode cX2_tryAt 0 = .ok (.iconst 0, 1) := by decide +kernel
theorem dX2_tryAt_1 : decode cX2_tryAt 1 = .ok (.istore 4, 2) := by decide +kernel
theorem dX2_tryAt_3 : decode cX2_tryAt 3 = .ok (.iconst 0, 1) := by decide +kernel
theorem dX2_tryAt_4 : decode cX2_tryAt 4 = .ok (.istore 5, 2) := by decide +kernel
theorem dX2_tryAt_6 : decode cX2_tryAt 6 = .ok (.iload 5, 2) := by decide +kernel
theorem dX2_tryAt_8 : decode cX2_tryAt 8 = .ok (.bipush 16, 2) := by decide +kernel
theorem dX2_tryAt_10 : decode cX2_tryAt 10 = .ok (.if_icmp .ge 42, 3) := by decide +kernel
theorem dX2_tryAt_13 : decode cX2_tryAt 13 = .ok (.iload 4, 2) := by decide +kernel
theorem dX2_tryAt_15 : decode cX2_tryAt 15 = .ok (.aload_n 0, 1) := by decide +kernel
theorem dX2_tryAt_16 : decode cX2_tryAt 16 = .ok (.getfield 10, 3) := by decide +kernel
theorem dX2_tryAt_19 : decode cX2_tryAt 19 = .ok (.if_icmp .ge 33, 3) := by decide +kernel
theorem dX2_tryAt_22 : decode cX2_tryAt 22 = .ok (.iload 5, 2) := by decide +kernel
theorem dX2_tryAt_24 : decode cX2_tryAt 24 = .ok (.iload_n 3, 1) := by decide +kernel
theorem dX2_tryAt_25 : decode cX2_tryAt 25 = .ok (.isub, 1) := by decide +kernel
theorem dX2_tryAt_26 : decode cX2_tryAt 26 = .ok (.istore 6, 2) := by decide +kernel
theorem dX2_tryAt_28 : decode cX2_tryAt 28 = .ok (.iload 4, 2) := by decide +kernel
theorem dX2_tryAt_30 : decode cX2_tryAt 30 = .ok (.aload_n 0, 1) := by decide +kernel
theorem dX2_tryAt_31 : decode cX2_tryAt 31 = .ok (.aload_n 1, 1) := by decide +kernel
theorem dX2_tryAt_32 : decode cX2_tryAt 32 = .ok (.iload 5, 2) := by decide +kernel
theorem dX2_tryAt_34 : decode cX2_tryAt 34 = .ok (.iload_n 2, 1) := by decide +kernel
theorem dX2_tryAt_35 : decode cX2_tryAt 35 = .ok (.iload 6, 2) := by decide +kernel
theorem dX2_tryAt_37 : decode cX2_tryAt 37 = .ok (.iload 6, 2) := by decide +kernel
theorem dX2_tryAt_39 : decode cX2_tryAt 39 = .ok (.imul, 1) := by decide +kernel
theorem dX2_tryAt_40 : decode cX2_tryAt 40 = .ok (.invokevirtual 78, 3) := by decide +kernel
theorem dX2_tryAt_43 : decode cX2_tryAt 43 = .ok (.iadd, 1) := by decide +kernel
theorem dX2_tryAt_44 : decode cX2_tryAt 44 = .ok (.istore 4, 2) := by decide +kernel
theorem dX2_tryAt_46 : decode cX2_tryAt 46 = .ok (.iinc 5 1, 3) := by decide +kernel
theorem dX2_tryAt_49 : decode cX2_tryAt 49 = .ok (.goto (-43), 3) := by decide +kernel
theorem dX2_tryAt_52 : decode cX2_tryAt 52 = .ok (.iload 4, 2) := by decide +kernel
theorem dX2_tryAt_54 : decode cX2_tryAt 54 = .ok (.aload_n 0, 1) := by decide +kernel
theorem dX2_tryAt_55 : decode cX2_tryAt 55 = .ok (.getfield 10, 3) := by decide +kernel
theorem dX2_tryAt_58 : decode cX2_tryAt 58 = .ok (.if_icmp .ge 19, 3) := by decide +kernel
theorem dX2_tryAt_61 : decode cX2_tryAt 61 = .ok (.aload_n 0, 1) := by decide +kernel
theorem dX2_tryAt_62 : decode cX2_tryAt 62 = .ok (.iload 4, 2) := by decide +kernel
theorem dX2_tryAt_64 : decode cX2_tryAt 64 = .ok (.putfield 10, 3) := by decide +kernel
theorem dX2_tryAt_67 : decode cX2_tryAt 67 = .ok (.aload_n 0, 1) := by decide +kernel
theorem dX2_tryAt_68 : decode cX2_tryAt 68 = .ok (.iload_n 2, 1) := by decide +kernel
theorem dX2_tryAt_69 : decode cX2_tryAt 69 = .ok (.putfield 16, 3) := by decide +kernel
theorem dX2_tryAt_72 : decode cX2_tryAt 72 = .ok (.aload_n 0, 1) := by decide +kernel
theorem dX2_tryAt_73 : decode cX2_tryAt 73 = .ok (.iload_n 3, 1) := by decide +kernel
theorem dX2_tryAt_74 : decode cX2_tryAt 74 = .ok (.putfield 19, 3) := by decide +kernel
theorem dX2_tryAt_77 : decode cX2_tryAt 77 = .ok (.return_, 1) := by decide +kernel
theorem dX2_farOfRow_0 : decode cX2_farOfRow 0 = .ok (.iload 4, 2) := by decide +kernel
theorem dX2_farOfRow_2 : decode cX2_farOfRow 2 = .ok (.aload_n 0, 1) := by decide +kernel
theorem dX2_farOfRow_3 : decode cX2_farOfRow 3 = .ok (.getfield 36, 3) := by decide +kernel
theorem dX2_farOfRow_6 : decode cX2_farOfRow 6 = .ok (.iload_n 2, 1) := by decide +kernel
theorem dX2_farOfRow_7 : decode cX2_farOfRow 7 = .ok (.iaload, 1) := by decide +kernel
theorem dX2_farOfRow_8 : decode cX2_farOfRow 8 = .ok (.if_icmp .lt 10, 3) := by decide +kernel
theorem dX2_farOfRow_11 : decode cX2_farOfRow 11 = .ok (.aload_n 0, 1) := by decide +kernel
theorem dX2_farOfRow_12 : decode cX2_farOfRow 12 = .ok (.getfield 39, 3) := by decide +kernel
theorem dX2_farOfRow_15 : decode cX2_farOfRow 15 = .ok (.iload_n 2, 1) := by decide +kernel
theorem dX2_farOfRow_16 : decode cX2_farOfRow 16 = .ok (.iaload, 1) := by decide +kernel
theorem dX2_farOfRow_17 : decode cX2_farOfRow 17 = .ok (.ireturn, 1) := by decide +kernel
theorem dX2_farOfRow_18 : decode cX2_farOfRow 18 = .ok (.iconst 0, 1) := by decide +kernel
theorem dX2_farOfRow_19 : decode cX2_farOfRow 19 = .ok (.istore 5, 2) := by decide +kernel
theorem dX2_farOfRow_21 : decode cX2_farOfRow 21 = .ok (.aload_n 1, 1) := by decide +kernel
theorem dX2_farOfRow_22 : decode cX2_farOfRow 22 = .ok (.getfield 50, 3) := by decide +kernel
theorem dX2_farOfRow_25 : decode cX2_farOfRow 25 = .ok (.iload_n 2, 1) := by decide +kernel
theorem dX2_farOfRow_26 : decode cX2_farOfRow 26 = .ok (.iaload, 1) := by decide +kernel
theorem dX2_farOfRow_27 : decode cX2_farOfRow 27 = .ok (.istore 6, 2) := by decide +kernel
theorem dX2_farOfRow_29 : decode cX2_farOfRow 29 = .ok (.iload 6, 2) := by decide +kernel
theorem dX2_farOfRow_31 : decode cX2_farOfRow 31 = .ok (.aload_n 1, 1) := by decide +kernel
theorem dX2_farOfRow_32 : decode cX2_farOfRow 32 = .ok (.getfield 55, 3) := by decide +kernel
theorem dX2_farOfRow_35 : decode cX2_farOfRow 35 = .ok (.iload_n 2, 1) := by decide +kernel
theorem dX2_farOfRow_36 : decode cX2_farOfRow 36 = .ok (.iaload, 1) := by decide +kernel
theorem dX2_farOfRow_37 : decode cX2_farOfRow 37 = .ok (.if_icmp .gt 63, 3) := by decide +kernel
theorem dX2_farOfRow_40 : decode cX2_farOfRow 40 = .ok (.iload_n 2, 1) := by decide +kernel
theorem dX2_farOfRow_41 : decode cX2_farOfRow 41 = .ok (.bipush 16, 2) := by decide +kernel
theorem dX2_farOfRow_43 : decode cX2_farOfRow 43 = .ok (.imul, 1) := by decide +kernel
theorem dX2_farOfRow_44 : decode cX2_farOfRow 44 = .ok (.iload 6, 2) := by decide +kernel
theorem dX2_farOfRow_46 : decode cX2_farOfRow 46 = .ok (.iadd, 1) := by decide +kernel
theorem dX2_farOfRow_47 : decode cX2_farOfRow 47 = .ok (.istore 7, 2) := by decide +kernel
theorem dX2_farOfRow_49 : decode cX2_farOfRow 49 = .ok (.iload 6, 2) := by decide +kernel
theorem dX2_farOfRow_51 : decode cX2_farOfRow 51 = .ok (.iload_n 3, 1) := by decide +kernel
theorem dX2_farOfRow_52 : decode cX2_farOfRow 52 = .ok (.isub, 1) := by decide +kernel
theorem dX2_farOfRow_53 : decode cX2_farOfRow 53 = .ok (.istore 8, 2) := by decide +kernel
theorem dX2_farOfRow_55 : decode cX2_farOfRow 55 = .ok (.iload 8, 2) := by decide +kernel
theorem dX2_farOfRow_57 : decode cX2_farOfRow 57 = .ok (.iload 8, 2) := by decide +kernel
theorem dX2_farOfRow_59 : decode cX2_farOfRow 59 = .ok (.imul, 1) := by decide +kernel
theorem dX2_farOfRow_60 : decode cX2_farOfRow 60 = .ok (.iload 4, 2) := by decide +kernel
theorem dX2_farOfRow_62 : decode cX2_farOfRow 62 = .ok (.iadd, 1) := by decide +kernel
theorem dX2_farOfRow_63 : decode cX2_farOfRow 63 = .ok (.istore 9, 2) := by decide +kernel
theorem dX2_farOfRow_65 : decode cX2_farOfRow 65 = .ok (.iload 5, 2) := by decide +kernel
theorem dX2_farOfRow_67 : decode cX2_farOfRow 67 = .ok (.iload 9, 2) := by decide +kernel
theorem dX2_farOfRow_69 : decode cX2_farOfRow 69 = .ok (.aload_n 0, 1) := by decide +kernel
theorem dX2_farOfRow_70 : decode cX2_farOfRow 70 = .ok (.getfield 29, 3) := by decide +kernel
theorem dX2_farOfRow_73 : decode cX2_farOfRow 73 = .ok (.iload 7, 2) := by decide +kernel
theorem dX2_farOfRow_75 : decode cX2_farOfRow 75 = .ok (.iaload, 1) := by decide +kernel
theorem dX2_farOfRow_76 : decode cX2_farOfRow 76 = .ok (.if_icmp .ge 8, 3) := by decide +kernel
theorem dX2_farOfRow_79 : decode cX2_farOfRow 79 = .ok (.iload 9, 2) := by decide +kernel
theorem dX2_farOfRow_81 : decode cX2_farOfRow 81 = .ok (.goto 10, 3) := by decide +kernel
theorem dX2_farOfRow_84 : decode cX2_farOfRow 84 = .ok (.aload_n 0, 1) := by decide +kernel
theorem dX2_farOfRow_85 : decode cX2_farOfRow 85 = .ok (.getfield 33, 3) := by decide +kernel
theorem dX2_farOfRow_88 : decode cX2_farOfRow 88 = .ok (.iload 7, 2) := by decide +kernel
theorem dX2_farOfRow_90 : decode cX2_farOfRow 90 = .ok (.iaload, 1) := by decide +kernel
theorem dX2_farOfRow_91 : decode cX2_farOfRow 91 = .ok (.iadd, 1) := by decide +kernel
theorem dX2_farOfRow_92 : decode cX2_farOfRow 92 = .ok (.istore 5, 2) := by decide +kernel
theorem dX2_farOfRow_94 : decode cX2_farOfRow 94 = .ok (.iinc 6 1, 3) := by decide +kernel
theorem dX2_farOfRow_97 : decode cX2_farOfRow 97 = .ok (.goto (-68), 3) := by decide +kernel
theorem dX2_farOfRow_100 : decode cX2_farOfRow 100 = .ok (.iload 5, 2) := by decide +kernel
theorem dX2_farOfRow_102 : decode cX2_farOfRow 102 = .ok (.ireturn, 1) := by decide +kernel
set_option maxRecDepth 20000 in
theorem ggX3_init_X0_init : GoodIn wsX3_init wsX0_init := goodIn_r _ [17, 18, 2, 3, 19, 13, 20, 21, 22, 30, 31, 32, 33] (by decide +kernel) (by decide +kernel)
set_option maxRecDepth 20000 in
theorem gX3_init_X0_init : GoodIn wsX3_init (wsX0_init) := ggX3_init_X0_init
theorem dX3_init_0 : decode cX3_init 0 = .ok (.aload_n 0, 1) := by decide +kernel
theorem dX3_init_1 : decode cX3_init 1 = .ok (.invokespecial 3, 3) := by decide +kernel
theorem dX3_init_4 : decode cX3_init 4 = .ok (.aload_n 0, 1) := by decide +kernel
theorem dX3_init_5 : decode cX3_init 5 = .ok (.bipush 6, 2) := by decide +kernel
theorem dX3_init_7 : decode cX3_init 7 = .ok (.anewarray 9, 3) := by decide +kernel
theorem dX3_init_10 : decode cX3_init 10 = .ok (.putfield 11, 3) := by decide +kernel
theorem dX3_init_13 : decode cX3_init 13 = .ok (.aload_n 0, 1) := by decide +kernel
theorem dX3_init_14 : decode cX3_init 14 = .ok (.iconst 0, 1) := by decide +kernel
theorem dX3_init_15 : decode cX3_init 15 = .ok (.putfield 17, 3) := by decide +kernel
theorem dX3_init_18 : decode cX3_init 18 = .ok (.aload_n 0, 1) := by decide +kernel
theorem dX3_init_19 : decode cX3_init 19 = .ok (.iconst 0, 1) := by decide +kernel
theorem dX3_init_20 : decode cX3_init 20 = .ok (.putfield 21, 3) := by decide +kernel
theorem dX3_init_23 : decode cX3_init 23 = .ok (.aload_n 0, 1) := by decide +kernel
theorem dX3_init_24 : decode cX3_init 24 = .ok (.iconst 0, 1) := by decide +kernel
theorem dX3_init_25 : decode cX3_init 25 = .ok (.putfield 24, 3) := by decide +kernel
theorem dX3_init_28 : decode cX3_init 28 = .ok (.aload_n 0, 1) := by decide +kernel
theorem dX3_init_29 : decode cX3_init 29 = .ok (.iconst 0, 1) := by decide +kernel
theorem dX3_init_30 : decode cX3_init 30 = .ok (.putfield 27, 3) := by decide +kernel
theorem dX3_init_33 : decode cX3_init 33 = .ok (.aload_n 0, 1) := by decide +kernel
theorem dX3_init_34 : decode cX3_init 34 = .ok (.new 9, 3) := by decide +kernel
theorem dX3_init_37 : decode cX3_init 37 = .ok (.dup, 1) := by decide +kernel
theorem dX3_init_38 : decode cX3_init 38 = .ok (.invokespecial 30, 3) := by decide +kernel
theorem dX3_init_41 : decode cX3_init 41 = .ok (.putfield 31, 3) := by decide +kernel
theorem dX3_init_44 : decode cX3_init 44 = .ok (.aload_n 0, 1) := by decide +kernel
theorem dX3_init_45 : decode cX3_init 45 = .ok (.sipush 256, 3) := by decide +kernel
theorem dX3_init_48 : decode cX3_init 48 = .ok (.newarray .int, 2) := by decide +kernel
theorem dX3_init_50 : decode cX3_init 50 = .ok (.putfield 35, 3) := by decide +kernel
theorem dX3_init_53 : decode cX3_init 53 = .ok (.iconst 0, 1) := by decide +kernel
theorem dX3_init_54 : decode cX3_init 54 = .ok (.istore_n 1, 1) := by decide +kernel
theorem dX3_init_55 : decode cX3_init 55 = .ok (.iload_n 1, 1) := by decide +kernel
theorem dX3_init_56 : decode cX3_init 56 = .ok (.bipush 6, 2) := by decide +kernel
theorem dX3_init_58 : decode cX3_init 58 = .ok (.if_icmp .ge 22, 3) := by decide +kernel
theorem dX3_init_61 : decode cX3_init 61 = .ok (.aload_n 0, 1) := by decide +kernel
theorem dX3_init_62 : decode cX3_init 62 = .ok (.getfield 11, 3) := by decide +kernel
theorem dX3_init_65 : decode cX3_init 65 = .ok (.iload_n 1, 1) := by decide +kernel
theorem dX3_init_66 : decode cX3_init 66 = .ok (.new 9, 3) := by decide +kernel
theorem dX3_init_69 : decode cX3_init 69 = .ok (.dup, 1) := by decide +kernel
theorem dX3_init_70 : decode cX3_init 70 = .ok (.invokespecial 30, 3) := by decide +kernel
theorem dX3_init_73 : decode cX3_init 73 = .ok (.aastore, 1) := by decide +kernel
theorem dX3_init_74 : decode cX3_init 74 = .ok (.iinc 1 1, 3) := by decide +kernel
theorem dX3_init_77 : decode cX3_init 77 = .ok (.goto (-22), 3) := by decide +kernel
theorem dX3_init_80 : decode cX3_init 80 = .ok (.return_, 1) := by decide +kernel
theorem dX3_letAllGo_0 : decode cX3_letAllGo 0 = .ok (.aload_n 0, 1) := by decide +kernel
theorem dX3_letAllGo_1 : decode cX3_letAllGo 1 = .ok (.iconst 0, 1) := by decide +kernel
theorem dX3_letAllGo_2 : decode cX3_letAllGo 2 = .ok (.putfield 17, 3) := by decide +kernel
theorem dX3_letAllGo_5 : decode cX3_letAllGo 5 = .ok (.return_, 1) := by decide +kernel
set_option maxRecDepth 20000 in
theorem ggX3_lookUp_X3_putLast : GoodIn wsX3_lookUp wsX3_putLast := goodIn_r _ [11, 2, 1, 40, 41, 42, 43, 44, 45, 46] (by decide +kernel) (by decide +kernel)
set_option maxRecDepth 20000 in
theorem gX3_lookUp_X3_putLast : GoodIn wsX3_lookUp (wsV RX3 42 RX3 yX3_putLast wsX3_putLast) := goodIn_app (goodIn_of _ (by decide +kernel)) ggX3_lookUp_X3_putLast
set_option maxRecDepth 20000 in
theorem ggX3_lookUp_X3_room : GoodIn wsX3_lookUp wsX3_room := goodIn_r _ [15, 1, 2, 16, 7, 8, 9, 10, 11, 40, 41, 42, 43, 44, 45, 46] (by decide +kernel) (by decide +kernel)
set_option maxRecDepth 20000 in
theorem gX3_lookUp_X3_room : GoodIn wsX3_lookUp (wsV RX3 46 RX3 yX3_room wsX3_room) := goodIn_app (goodIn_of _ (by decide +kernel)) ggX3_lookUp_X3_room
set_option maxRecDepth 20000 in
theorem ggX3_lookUp_X0_workOut : GoodIn wsX3_lookUp wsX0_workOut := goodIn_r _ [21, 22, 23, 24, 25, 26, 27, 28, 29, 30, 31, 32, 33, 34, 20, 35, 36, 37, 38, 39, 47, 48, 49, 50, 51, 52, 53, 54, 55, 56, 57, 58] (by decide +kernel) (by decide +kernel)
set_option maxRecDepth 20000 in
theorem gX3_lookUp_X0_workOut : GoodIn wsX3_lookUp (wsV RX3 50 RX0 yX0_workOut wsX0_workOut) := goodIn_app (goodIn_of _ (by decide +kernel)) ggX3_lookUp_X0_workOut
theorem dX3_lookUp_0 : decode cX3_lookUp 0 = .ok (.iconst 0, 1) := by decide +kernel
theorem dX3_lookUp_1 : decode cX3_lookUp 1 = .ok (.istore_n 3, 1) := by decide +kernel
theorem dX3_lookUp_2 : decode cX3_lookUp 2 = .ok (.iload_n 3, 1) := by decide +kernel
theorem dX3_lookUp_3 : decode cX3_lookUp 3 = .ok (.aload_n 0, 1) := by decide +kernel
theorem dX3_lookUp_4 : decode cX3_lookUp 4 = .ok (.getfield 17, 3) := by decide +kernel
theorem dX3_lookUp_7 : decode cX3_lookUp 7 = .ok (.if_icmp .ge 38, 3) := by decide +kernel
theorem dX3_lookUp_10 : decode cX3_lookUp 10 = .ok (.aload_n 0, 1) := by decide +kernel
theorem dX3_lookUp_11 : decode cX3_lookUp 11 = .ok (.getfield 11, 3) := by decide +kernel
theorem dX3_lookUp_14 : decode cX3_lookUp 14 = .ok (.iload_n 3, 1) := by decide +kernel
theorem dX3_lookUp_15 : decode cX3_lookUp 15 = .ok (.aaload, 1) := by decide +kernel
theorem dX3_lookUp_16 : decode cX3_lookUp 16 = .ok (.getfield 39, 3) := by decide +kernel
theorem dX3_lookUp_19 : decode cX3_lookUp 19 = .ok (.iload_n 2, 1) := by decide +kernel
theorem dX3_lookUp_20 : decode cX3_lookUp 20 = .ok (.if_icmp .ne 19, 3) := by decide +kernel
theorem dX3_lookUp_23 : decode cX3_lookUp 23 = .ok (.aload_n 0, 1) := by decide +kernel
theorem dX3_lookUp_24 : decode cX3_lookUp 24 = .ok (.dup, 1) := by decide +kernel
theorem dX3_lookUp_25 : decode cX3_lookUp 25 = .ok (.getfield 21, 3) := by decide +kernel
theorem dX3_lookUp_28 : decode cX3_lookUp 28 = .ok (.iconst 1, 1) := by decide +kernel
theorem dX3_lookUp_29 : decode cX3_lookUp 29 = .ok (.iadd, 1) := by decide +kernel
theorem dX3_lookUp_30 : decode cX3_lookUp 30 = .ok (.putfield 21, 3) := by decide +kernel
theorem dX3_lookUp_33 : decode cX3_lookUp 33 = .ok (.aload_n 0, 1) := by decide +kernel
theorem dX3_lookUp_34 : decode cX3_lookUp 34 = .ok (.iload_n 3, 1) := by decide +kernel
theorem dX3_lookUp_35 : decode cX3_lookUp 35 = .ok (.invokevirtual 42, 3) := by decide +kernel
theorem dX3_lookUp_38 : decode cX3_lookUp 38 = .ok (.areturn, 1) := by decide +kernel
theorem dX3_lookUp_39 : decode cX3_lookUp 39 = .ok (.iinc 3 1, 3) := by decide +kernel
theorem dX3_lookUp_42 : decode cX3_lookUp 42 = .ok (.goto (-40), 3) := by decide +kernel
theorem dX3_lookUp_45 : decode cX3_lookUp 45 = .ok (.aload_n 0, 1) := by decide +kernel
theorem dX3_lookUp_46 : decode cX3_lookUp 46 = .ok (.dup, 1) := by decide +kernel
theorem dX3_lookUp_47 : decode cX3_lookUp 47 = .ok (.getfield 24, 3) := by decide +kernel
theorem dX3_lookUp_50 : decode cX3_lookUp 50 = .ok (.iconst 1, 1) := by decide +kernel
theorem dX3_lookUp_51 : decode cX3_lookUp 51 = .ok (.iadd, 1) := by decide +kernel
theorem dX3_lookUp_52 : decode cX3_lookUp 52 = .ok (.putfield 24, 3) := by decide +kernel
theorem dX3_lookUp_55 : decode cX3_lookUp 55 = .ok (.aload_n 0, 1) := by decide +kernel
theorem dX3_lookUp_56 : decode cX3_lookUp 56 = .ok (.invokevirtual 46, 3) := by decide +kernel
theorem dX3_lookUp_59 : decode cX3_lookUp 59 = .ok (.astore_n 3, 1) := by decide +kernel
theorem dX3_lookUp_60 : decode cX3_lookUp 60 = .ok (.aload_n 3, 1) := by decide +kernel
theorem dX3_lookUp_61 : decode cX3_lookUp 61 = .ok (.aload_n 1, 1) := by decide +kernel
theorem dX3_lookUp_62 : decode cX3_lookUp 62 = .ok (.iload_n 2, 1) := by decide +kernel
theorem dX3_lookUp_63 : decode cX3_lookUp 63 = .ok (.aload_n 0, 1) := by decide +kernel
theorem dX3_lookUp_64 : decode cX3_lookUp 64 = .ok (.getfield 35, 3) := by decide +kernel
theorem dX3_lookUp_67 : decode cX3_lookUp 67 = .ok (.invokevirtual 50, 3) := by decide +kernel
theorem dX3_lookUp_70 : decode cX3_lookUp 70 = .ok (.aload_n 3, 1) := by decide +kernel
theorem dX3_lookUp_71 : decode cX3_lookUp 71 = .ok (.areturn, 1) := by decide +kernel
set_option maxRecDepth 20000 in
theorem ggX3_room_X3_putLast : GoodIn wsX3_room wsX3_putLast := goodIn_r _ [8, 2, 1, 9, 10, 11, 12, 13, 14, 15] (by decide +kernel) (by decide +kernel)
set_option maxRecDepth 20000 in
theorem gX3_room_X3_putLast : GoodIn wsX3_room (wsV RX3 42 RX3 yX3_putLast wsX3_putLast) := goodIn_app (goodIn_of _ (by decide +kernel)) ggX3_room_X3_putLast
theorem dX3_room_0 : decode cX3_room 0 = .ok (.aload_n 0, 1) := by decide +kernel
theorem dX3_room_1 : decode cX3_room 1 = .ok (.getfield 17, 3) := by decide +kernel
theorem dX3_room_4 : decode cX3_room 4 = .ok (.bipush 6, 2) := by decide +kernel
theorem dX3_room_6 : decode cX3_room 6 = .ok (.if_icmp .ge 25, 3) := by decide +kernel
theorem dX3_room_9 : decode cX3_room 9 = .ok (.aload_n 0, 1) := by decide +kernel
theorem dX3_room_10 : decode cX3_room 10 = .ok (.dup, 1) := by decide +kernel
theorem dX3_room_11 : decode cX3_room 11 = .ok (.getfield 17, 3) := by decide +kernel
theorem dX3_room_14 : decode cX3_room 14 = .ok (.iconst 1, 1) := by decide +kernel
theorem dX3_room_15 : decode cX3_room 15 = .ok (.iadd, 1) := by decide +kernel
theorem dX3_room_16 : decode cX3_room 16 = .ok (.putfield 17, 3) := by decide +kernel
theorem dX3_room_19 : decode cX3_room 19 = .ok (.aload_n 0, 1) := by decide +kernel
theorem dX3_room_20 : decode cX3_room 20 = .ok (.getfield 11, 3) := by decide +kernel
theorem dX3_room_23 : decode cX3_room 23 = .ok (.aload_n 0, 1) := by decide +kernel
theorem dX3_room_24 : decode cX3_room 24 = .ok (.getfield 17, 3) := by decide +kernel
theorem dX3_room_27 : decode cX3_room 27 = .ok (.iconst 1, 1) := by decide +kernel
theorem dX3_room_28 : decode cX3_room 28 = .ok (.isub, 1) := by decide +kernel
theorem dX3_room_29 : decode cX3_room 29 = .ok (.aaload, 1) := by decide +kernel
theorem dX3_room_30 : decode cX3_room 30 = .ok (.areturn, 1) := by decide +kernel
theorem dX3_room_31 : decode cX3_room 31 = .ok (.aload_n 0, 1) := by decide +kernel
theorem dX3_room_32 : decode cX3_room 32 = .ok (.dup, 1) := by decide +kernel
theorem dX3_room_33 : decode cX3_room 33 = .ok (.getfield 27, 3) := by decide +kernel
theorem dX3_room_36 : decode cX3_room 36 = .ok (.iconst 1, 1) := by decide +kernel
theorem dX3_room_37 : decode cX3_room 37 = .ok (.iadd, 1) := by decide +kernel
theorem dX3_room_38 : decode cX3_room 38 = .ok (.putfield 27, 3) := by decide +kernel
theorem dX3_room_41 : decode cX3_room 41 = .ok (.aload_n 0, 1) := by decide +kernel
theorem dX3_room_42 : decode cX3_room 42 = .ok (.iconst 0, 1) := by decide +kernel
theorem dX3_room_43 : decode cX3_room 43 = .ok (.invokevirtual 42, 3) := by decide +kernel
theorem dX3_room_46 : decode cX3_room 46 = .ok (.areturn, 1) := by decide +kernel
theorem dX3_putLast_0 : decode cX3_putLast 0 = .ok (.aload_n 0, 1) := by decide +kernel
theorem dX3_putLast_1 : decode cX3_putLast 1 = .ok (.getfield 11, 3) := by decide +kernel
theorem dX3_putLast_4 : decode cX3_putLast 4 = .ok (.iload_n 1, 1) := by decide +kernel
theorem dX3_putLast_5 : decode cX3_putLast 5 = .ok (.aaload, 1) := by decide +kernel
theorem dX3_putLast_6 : decode cX3_putLast 6 = .ok (.astore_n 2, 1) := by decide +kernel
theorem dX3_putLast_7 : decode cX3_putLast 7 = .ok (.iload_n 1, 1) := by decide +kernel
theorem dX3_putLast_8 : decode cX3_putLast 8 = .ok (.istore_n 3, 1) := by decide +kernel
theorem dX3_putLast_9 : decode cX3_putLast 9 = .ok (.iload_n 3, 1) := by decide +kernel
theorem dX3_putLast_10 : decode cX3_putLast 10 = .ok (.aload_n 0, 1) := by decide +kernel
theorem dX3_putLast_11 : decode cX3_putLast 11 = .ok (.getfield 17, 3) := by decide +kernel
theorem dX3_putLast_14 : decode cX3_putLast 14 = .ok (.iconst 1, 1) := by decide +kernel
theorem dX3_putLast_15 : decode cX3_putLast 15 = .ok (.isub, 1) := by decide +kernel
theorem dX3_putLast_16 : decode cX3_putLast 16 = .ok (.if_icmp .ge 23, 3) := by decide +kernel
theorem dX3_putLast_19 : decode cX3_putLast 19 = .ok (.aload_n 0, 1) := by decide +kernel
theorem dX3_putLast_20 : decode cX3_putLast 20 = .ok (.getfield 11, 3) := by decide +kernel
theorem dX3_putLast_23 : decode cX3_putLast 23 = .ok (.iload_n 3, 1) := by decide +kernel
theorem dX3_putLast_24 : decode cX3_putLast 24 = .ok (.aload_n 0, 1) := by decide +kernel
theorem dX3_putLast_25 : decode cX3_putLast 25 = .ok (.getfield 11, 3) := by decide +kernel
theorem dX3_putLast_28 : decode cX3_putLast 28 = .ok (.iload_n 3, 1) := by decide +kernel
theorem dX3_putLast_29 : decode cX3_putLast 29 = .ok (.iconst 1, 1) := by decide +kernel
theorem dX3_putLast_30 : decode cX3_putLast 30 = .ok (.iadd, 1) := by decide +kernel
theorem dX3_putLast_31 : decode cX3_putLast 31 = .ok (.aaload, 1) := by decide +kernel
theorem dX3_putLast_32 : decode cX3_putLast 32 = .ok (.aastore, 1) := by decide +kernel
theorem dX3_putLast_33 : decode cX3_putLast 33 = .ok (.iinc 3 1, 3) := by decide +kernel
theorem dX3_putLast_36 : decode cX3_putLast 36 = .ok (.goto (-27), 3) := by decide +kernel
theorem dX3_putLast_39 : decode cX3_putLast 39 = .ok (.aload_n 0, 1) := by decide +kernel
theorem dX3_putLast_40 : decode cX3_putLast 40 = .ok (.getfield 11, 3) := by decide +kernel
theorem dX3_putLast_43 : decode cX3_putLast 43 = .ok (.aload_n 0, 1) := by decide +kernel
theorem dX3_putLast_44 : decode cX3_putLast 44 = .ok (.getfield 17, 3) := by decide +kernel
theorem dX3_putLast_47 : decode cX3_putLast 47 = .ok (.iconst 1, 1) := by decide +kernel
theorem dX3_putLast_48 : decode cX3_putLast 48 = .ok (.isub, 1) := by decide +kernel
theorem dX3_putLast_49 : decode cX3_putLast 49 = .ok (.aload_n 2, 1) := by decide +kernel
theorem dX3_putLast_50 : decode cX3_putLast 50 = .ok (.aastore, 1) := by decide +kernel
theorem dX3_putLast_51 : decode cX3_putLast 51 = .ok (.aload_n 2, 1) := by decide +kernel
theorem dX3_putLast_52 : decode cX3_putLast 52 = .ok (.areturn, 1) := by decide +kernel
set_option maxRecDepth 20000 in
theorem ggX4_init_X1_init : GoodIn wsX4_init wsX1_init := goodIn_r _ [20, 21, 2, 3, 22, 23, 24, 25, 26, 27, 28, 29, 30, 31, 68, 69, 70, 71, 72, 73, 74, 75] (by decide +kernel) (by decide +kernel)
set_option maxRecDepth 20000 in
theorem gX4_init_X1_init : GoodIn wsX4_init (wsX1_init) := ggX4_init_X1_init
set_option maxRecDepth 20000 in
theorem ggX4_init_X3_init : GoodIn wsX4_init wsX3_init := goodIn_r _ [34, 35, 2, 3, 36, 37, 38, 39, 40, 41, 42, 43, 44, 22, 45, 46, 47, 48, 49, 50, 51, 52, 53, 81, 82, 83, 84, 85, 86, 87, 96, 97, 98, 99] (by decide +kernel) (by decide +kernel)
set_option maxRecDepth 20000 in
theorem gX4_init_X3_init : GoodIn wsX4_init (wsX3_init) := ggX4_init_X3_init
set_option maxRecDepth 20000 in
theorem ggX4_init_X2_init : GoodIn wsX4_init wsX2_init := goodIn_r _ [55, 56, 2, 3, 57, 58, 59, 60, 61, 42, 43, 62, 22, 63, 64, 65, 66, 67, 47, 48, 49, 50, 51, 52, 53, 88, 89, 90, 91, 92, 93, 94, 95, 96, 97, 98, 99] (by decide +kernel) (by decide +kernel)
set_option maxRecDepth 20000 in
theorem gX4_init_X2_init_n33 : GoodIn wsX4_init (wsX2_init) := ggX4_init_X2_init
theorem dX4_init_0 : decode cX4_init 0 = .ok (.aload_n 0, 1) := by decide +kernel
theorem dX4_init_1 : decode cX4_init 1 = .ok (.invokespecial 3, 3) := by decide +kernel
theorem dX4_init_4 : decode cX4_init 4 = .ok (.aload_n 0, 1) := by decide +kernel
theorem dX4_init_5 : decode cX4_init 5 = .ok (.new 9, 3) := by decide +kernel
theorem dX4_init_8 : decode cX4_init 8 = .ok (.dup, 1) := by decide +kernel
theorem dX4_init_9 : decode cX4_init 9 = .ok (.invokespecial 11, 3) := by decide +kernel
theorem dX4_init_12 : decode cX4_init 12 = .ok (.putfield 12, 3) := by decide +kernel
theorem dX4_init_15 : decode cX4_init 15 = .ok (.aload_n 0, 1) := by decide +kernel
theorem dX4_init_16 : decode cX4_init 16 = .ok (.iconst 2, 1) := by decide +kernel
theorem dX4_init_17 : decode cX4_init 17 = .ok (.anewarray 9, 3) := by decide +kernel
theorem dX4_init_20 : decode cX4_init 20 = .ok (.putfield 16, 3) := by decide +kernel
theorem dX4_init_23 : decode cX4_init 23 = .ok (.iconst 0, 1) := by decide +kernel
theorem dX4_init_24 : decode cX4_init 24 = .ok (.istore_n 1, 1) := by decide +kernel
theorem dX4_init_25 : decode cX4_init 25 = .ok (.iload_n 1, 1) := by decide +kernel
theorem dX4_init_26 : decode cX4_init 26 = .ok (.iconst 2, 1) := by decide +kernel
theorem dX4_init_27 : decode cX4_init 27 = .ok (.if_icmp .ge 22, 3) := by decide +kernel
theorem dX4_init_30 : decode cX4_init 30 = .ok (.aload_n 0, 1) := by decide +kernel
theorem dX4_init_31 : decode cX4_init 31 = .ok (.getfield 16, 3) := by decide +kernel
theorem dX4_init_34 : decode cX4_init 34 = .ok (.iload_n 1, 1) := by decide +kernel
theorem dX4_init_35 : decode cX4_init 35 = .ok (.new 9, 3) := by decide +kernel
theorem dX4_init_38 : decode cX4_init 38 = .ok (.dup, 1) := by decide +kernel
theorem dX4_init_39 : decode cX4_init 39 = .ok (.invokespecial 11, 3) := by decide +kernel
theorem dX4_init_42 : decode cX4_init 42 = .ok (.aastore, 1) := by decide +kernel
theorem dX4_init_43 : decode cX4_init 43 = .ok (.iinc 1 1, 3) := by decide +kernel
theorem dX4_init_46 : decode cX4_init 46 = .ok (.goto (-21), 3) := by decide +kernel
theorem dX4_init_49 : decode cX4_init 49 = .ok (.aload_n 0, 1) := by decide +kernel
theorem dX4_init_50 : decode cX4_init 50 = .ok (.iconst 0, 1) := by decide +kernel
theorem dX4_init_51 : decode cX4_init 51 = .ok (.putfield 20, 3) := by decide +kernel
theorem dX4_init_54 : decode cX4_init 54 = .ok (.aload_n 0, 1) := by decide +kernel
theorem dX4_init_55 : decode cX4_init 55 = .ok (.new 24, 3) := by decide +kernel
theorem dX4_init_58 : decode cX4_init 58 = .ok (.dup, 1) := by decide +kernel
theorem dX4_init_59 : decode cX4_init 59 = .ok (.invokespecial 26, 3) := by decide +kernel
theorem dX4_init_62 : decode cX4_init 62 = .ok (.putfield 27, 3) := by decide +kernel
theorem dX4_init_65 : decode cX4_init 65 = .ok (.aload_n 0, 1) := by decide +kernel
theorem dX4_init_66 : decode cX4_init 66 = .ok (.new 31, 3) := by decide +kernel
theorem dX4_init_69 : decode cX4_init 69 = .ok (.dup, 1) := by decide +kernel
theorem dX4_init_70 : decode cX4_init 70 = .ok (.invokespecial 33, 3) := by decide +kernel
theorem dX4_init_73 : decode cX4_init 73 = .ok (.putfield 34, 3) := by decide +kernel
theorem dX4_init_76 : decode cX4_init 76 = .ok (.return_, 1) := by decide +kernel
set_option maxRecDepth 20000 in
theorem ggX4_row_X4_isPlot : GoodIn wsX4_row wsX4_isPlot := goodIn_r _ [8] (by decide +kernel) (by decide +kernel)
set_option maxRecDepth 20000 in
theorem gX4_row_X4_isPlot : GoodIn wsX4_row (va_wsS RX4 38 yX4_isPlot wsX4_isPlot) := goodIn_app (goodIn_of _ (by decide +kernel)) ggX4_row_X4_isPlot
set_option maxRecDepth 20000 in
theorem ggX4_row_X3_letAllGo : GoodIn wsX4_row wsX3_letAllGo := goodIn_r _ [13, 14, 39, 40, 41, 42, 43, 44, 45] (by decide +kernel) (by decide +kernel)
set_option maxRecDepth 20000 in
theorem gX4_row_X3_letAllGo : GoodIn wsX4_row (wsV RX4 49 RX3 yX3_letAllGo wsX3_letAllGo) := goodIn_app (goodIn_of _ (by decide +kernel)) ggX4_row_X3_letAllGo
set_option maxRecDepth 20000 in
theorem ggX4_row_X1_plotCount : GoodIn wsX4_row wsX1_plotCount := goodIn_r _ [19, 20, 21, 22, 23, 24, 18, 25, 31, 32, 33, 34, 35, 36, 37, 38] (by decide +kernel) (by decide +kernel)
set_option maxRecDepth 20000 in
theorem gX4_row_X1_plotCount : GoodIn wsX4_row (wsV RX4 52 RX1 yX1_plotCount wsX1_plotCount) := goodIn_app (goodIn_of _ (by decide +kernel)) ggX4_row_X1_plotCount
theorem dX4_row_0 : decode cX4_row 0 = .ok (.iload_n 2, 1) := by decide +kernel
theorem dX4_row_1 : decode cX4_row 1 = .ok (.iload_n 1, 1) := by decide +kernel
theorem dX4_row_2 : decode cX4_row 2 = .ok (.invokestatic 38, 3) := by decide +kernel
theorem dX4_row_5 : decode cX4_row 5 = .ok (.ifCond .eq 11, 3) := by decide +kernel
theorem dX4_row_8 : decode cX4_row 8 = .ok (.iload_n 3, 1) := by decide +kernel
theorem dX4_row_9 : decode cX4_row 9 = .ok (.iload_n 1, 1) := by decide +kernel
theorem dX4_row_10 : decode cX4_row 10 = .ok (.invokestatic 38, 3) := by decide +kernel
theorem dX4_row_13 : decode cX4_row 13 = .ok (.ifCond .ne 6, 3) := by decide +kernel
theorem dX4_row_16 : decode cX4_row 16 = .ok (.bipush (-2), 2) := by decide +kernel
theorem dX4_row_18 : decode cX4_row 18 = .ok (.ireturn, 1) := by decide +kernel
theorem dX4_row_19 : decode cX4_row 19 = .ok (.aload_n 0, 1) := by decide +kernel
theorem dX4_row_20 : decode cX4_row 20 = .ok (.getfield 12, 3) := by decide +kernel
theorem dX4_row_23 : decode cX4_row 23 = .ok (.getfield 42, 3) := by decide +kernel
theorem dX4_row_26 : decode cX4_row 26 = .ok (.iload_n 1, 1) := by decide +kernel
theorem dX4_row_27 : decode cX4_row 27 = .ok (.iload_n 2, 1) := by decide +kernel
theorem dX4_row_28 : decode cX4_row 28 = .ok (.iastore, 1) := by decide +kernel
theorem dX4_row_29 : decode cX4_row 29 = .ok (.aload_n 0, 1) := by decide +kernel
theorem dX4_row_30 : decode cX4_row 30 = .ok (.getfield 12, 3) := by decide +kernel
theorem dX4_row_33 : decode cX4_row 33 = .ok (.getfield 46, 3) := by decide +kernel
theorem dX4_row_36 : decode cX4_row 36 = .ok (.iload_n 1, 1) := by decide +kernel
theorem dX4_row_37 : decode cX4_row 37 = .ok (.iload_n 3, 1) := by decide +kernel
theorem dX4_row_38 : decode cX4_row 38 = .ok (.iastore, 1) := by decide +kernel
theorem dX4_row_39 : decode cX4_row 39 = .ok (.aload_n 0, 1) := by decide +kernel
theorem dX4_row_40 : decode cX4_row 40 = .ok (.getfield 27, 3) := by decide +kernel
theorem dX4_row_43 : decode cX4_row 43 = .ok (.invokevirtual 49, 3) := by decide +kernel
theorem dX4_row_46 : decode cX4_row 46 = .ok (.aload_n 0, 1) := by decide +kernel
theorem dX4_row_47 : decode cX4_row 47 = .ok (.getfield 12, 3) := by decide +kernel
theorem dX4_row_50 : decode cX4_row 50 = .ok (.invokevirtual 52, 3) := by decide +kernel
theorem dX4_row_53 : decode cX4_row 53 = .ok (.ireturn, 1) := by decide +kernel
set_option maxRecDepth 20000 in
theorem ggX4_gauge_X4_isPlace : GoodIn wsX4_gauge wsX4_isPlace := goodIn_r _ [9] (by decide +kernel) (by decide +kernel)
set_option maxRecDepth 20000 in
theorem gX4_gauge_X4_isPlace : GoodIn wsX4_gauge (va_wsS RX4 56 yX4_isPlace wsX4_isPlace) := goodIn_app (goodIn_of _ (by decide +kernel)) ggX4_gauge_X4_isPlace
set_option maxRecDepth 20000 in
theorem ggX4_gauge_X1_gaugeAt : GoodIn wsX4_gauge wsX1_gaugeAt := goodIn_r _ [14, 15, 16, 17, 29, 30, 31, 32, 33, 34, 35, 36] (by decide +kernel) (by decide +kernel)
set_option maxRecDepth 20000 in
theorem gX4_gauge_X1_gaugeAt : GoodIn wsX4_gauge (wsV RX4 59 RX1 yX1_gaugeAt wsX1_gaugeAt) := goodIn_app (goodIn_of _ (by decide +kernel)) ggX4_gauge_X1_gaugeAt
set_option maxRecDepth 20000 in
theorem ggX4_gauge_X3_letAllGo : GoodIn wsX4_gauge wsX3_letAllGo := goodIn_r _ [22, 23, 37, 38, 39, 40, 41, 42, 43] (by decide +kernel) (by decide +kernel)
set_option maxRecDepth 20000 in
theorem gX4_gauge_X3_letAllGo : GoodIn wsX4_gauge (wsV RX4 49 RX3 yX3_letAllGo wsX3_letAllGo) := goodIn_app (goodIn_of _ (by decide +kernel)) ggX4_gauge_X3_letAllGo
theorem dX4_gauge_0 : decode cX4_gauge 0 = .ok (.iload_n 1, 1) := by decide +kernel
theorem dX4_gauge_1 : decode cX4_gauge 1 = .ok (.iload_n 2, 1) := by decide +kernel
theorem dX4_gauge_2 : decode cX4_gauge 2 = .ok (.invokestatic 56, 3) := by decide +kernel
theorem dX4_gauge_5 : decode cX4_gauge 5 = .ok (.ifCond .ne 6, 3) := by decide +kernel
theorem dX4_gauge_8 : decode cX4_gauge 8 = .ok (.bipush (-2), 2) := by decide +kernel
theorem dX4_gauge_10 : decode cX4_gauge 10 = .ok (.ireturn, 1) := by decide +kernel
theorem dX4_gauge_11 : decode cX4_gauge 11 = .ok (.aload_n 0, 1) := by decide +kernel
theorem dX4_gauge_12 : decode cX4_gauge 12 = .ok (.getfield 12, 3) := by decide +kernel
theorem dX4_gauge_15 : decode cX4_gauge 15 = .ok (.iload_n 1, 1) := by decide +kernel
theorem dX4_gauge_16 : decode cX4_gauge 16 = .ok (.iload_n 2, 1) := by decide +kernel
theorem dX4_gauge_17 : decode cX4_gauge 17 = .ok (.invokevirtual 59, 3) := by decide +kernel
theorem dX4_gauge_20 : decode cX4_gauge 20 = .ok (.iconst (-1), 1) := by decide +kernel
theorem dX4_gauge_21 : decode cX4_gauge 21 = .ok (.if_icmp .eq 6, 3) := by decide +kernel
theorem dX4_gauge_24 : decode cX4_gauge 24 = .ok (.bipush (-5), 2) := by decide +kernel
theorem dX4_gauge_26 : decode cX4_gauge 26 = .ok (.ireturn, 1) := by decide +kernel
theorem dX4_gauge_27 : decode cX4_gauge 27 = .ok (.aload_n 0, 1) := by decide +kernel
theorem dX4_gauge_28 : decode cX4_gauge 28 = .ok (.getfield 12, 3) := by decide +kernel
theorem dX4_gauge_31 : decode cX4_gauge 31 = .ok (.getfield 63, 3) := by decide +kernel
theorem dX4_gauge_34 : decode cX4_gauge 34 = .ok (.bipush 8, 2) := by decide +kernel
theorem dX4_gauge_36 : decode cX4_gauge 36 = .ok (.if_icmp .lt 6, 3) := by decide +kernel
theorem dX4_gauge_39 : decode cX4_gauge 39 = .ok (.bipush (-4), 2) := by decide +kernel
theorem dX4_gauge_41 : decode cX4_gauge 41 = .ok (.ireturn, 1) := by decide +kernel
theorem dX4_gauge_42 : decode cX4_gauge 42 = .ok (.aload_n 0, 1) := by decide +kernel
theorem dX4_gauge_43 : decode cX4_gauge 43 = .ok (.getfield 12, 3) := by decide +kernel
theorem dX4_gauge_46 : decode cX4_gauge 46 = .ok (.getfield 63, 3) := by decide +kernel
theorem dX4_gauge_49 : decode cX4_gauge 49 = .ok (.istore_n 3, 1) := by decide +kernel
theorem dX4_gauge_50 : decode cX4_gauge 50 = .ok (.aload_n 0, 1) := by decide +kernel
theorem dX4_gauge_51 : decode cX4_gauge 51 = .ok (.getfield 12, 3) := by decide +kernel
theorem dX4_gauge_54 : decode cX4_gauge 54 = .ok (.iload_n 3, 1) := by decide +kernel
theorem dX4_gauge_55 : decode cX4_gauge 55 = .ok (.iconst 1, 1) := by decide +kernel
theorem dX4_gauge_56 : decode cX4_gauge 56 = .ok (.iadd, 1) := by decide +kernel
theorem dX4_gauge_57 : decode cX4_gauge 57 = .ok (.putfield 63, 3) := by decide +kernel
theorem dX4_gauge_60 : decode cX4_gauge 60 = .ok (.aload_n 0, 1) := by decide +kernel
theorem dX4_gauge_61 : decode cX4_gauge 61 = .ok (.getfield 12, 3) := by decide +kernel
theorem dX4_gauge_64 : decode cX4_gauge 64 = .ok (.getfield 66, 3) := by decide +kernel
theorem dX4_gauge_67 : decode cX4_gauge 67 = .ok (.iload_n 3, 1) := by decide +kernel
theorem dX4_gauge_68 : decode cX4_gauge 68 = .ok (.iload_n 1, 1) := by decide +kernel
theorem dX4_gauge_69 : decode cX4_gauge 69 = .ok (.iastore, 1) := by decide +kernel
theorem dX4_gauge_70 : decode cX4_gauge 70 = .ok (.aload_n 0, 1) := by decide +kernel
theorem dX4_gauge_71 : decode cX4_gauge 71 = .ok (.getfield 12, 3) := by decide +kernel
theorem dX4_gauge_74 : decode cX4_gauge 74 = .ok (.getfield 69, 3) := by decide +kernel
theorem dX4_gauge_77 : decode cX4_gauge 77 = .ok (.iload_n 3, 1) := by decide +kernel
theorem dX4_gauge_78 : decode cX4_gauge 78 = .ok (.iload_n 2, 1) := by decide +kernel
theorem dX4_gauge_79 : decode cX4_gauge 79 = .ok (.iastore, 1) := by decide +kernel
theorem dX4_gauge_80 : decode cX4_gauge 80 = .ok (.aload_n 0, 1) := by decide +kernel
theorem dX4_gauge_81 : decode cX4_gauge 81 = .ok (.getfield 27, 3) := by decide +kernel
theorem dX4_gauge_84 : decode cX4_gauge 84 = .ok (.invokevirtual 49, 3) := by decide +kernel
theorem dX4_gauge_87 : decode cX4_gauge 87 = .ok (.iload_n 3, 1) := by decide +kernel
theorem dX4_gauge_88 : decode cX4_gauge 88 = .ok (.ireturn, 1) := by decide +kernel
set_option maxRecDepth 20000 in
theorem ggX4_move_X1_knows : GoodIn wsX4_move wsX1_knows := goodIn_r _ [9, 10, 36, 37, 38, 39, 40, 41, 42, 43] (by decide +kernel) (by decide +kernel)
set_option maxRecDepth 20000 in
theorem gX4_move_X1_knows : GoodIn wsX4_move (wsV RX4 72 RX1 yX1_knows wsX1_knows) := goodIn_app (goodIn_of _ (by decide +kernel)) ggX4_move_X1_knows
set_option maxRecDepth 20000 in
theorem ggX4_move_X4_isPlace : GoodIn wsX4_move wsX4_isPlace := goodIn_r _ [14] (by decide +kernel) (by decide +kernel)
set_option maxRecDepth 20000 in
theorem gX4_move_X4_isPlace : GoodIn wsX4_move (va_wsS RX4 56 yX4_isPlace wsX4_isPlace) := goodIn_app (goodIn_of _ (by decide +kernel)) ggX4_move_X4_isPlace
set_option maxRecDepth 20000 in
theorem ggX4_move_X1_gaugeAt : GoodIn wsX4_move wsX1_gaugeAt := goodIn_r _ [18, 10, 19, 20, 36, 37, 38, 39, 40, 41, 42, 43] (by decide +kernel) (by decide +kernel)
set_option maxRecDepth 20000 in
theorem gX4_move_X1_gaugeAt : GoodIn wsX4_move (wsV RX4 59 RX1 yX1_gaugeAt wsX1_gaugeAt) := goodIn_app (goodIn_of _ (by decide +kernel)) ggX4_move_X1_gaugeAt
set_option maxRecDepth 20000 in
theorem ggX4_move_X1_farFrom : GoodIn wsX4_move wsX1_farFrom := goodIn_r _ [24, 19, 20, 36, 37, 38, 39, 40, 41, 42, 43] (by decide +kernel) (by decide +kernel)
set_option maxRecDepth 20000 in
theorem gX4_move_X1_farFrom : GoodIn wsX4_move (wsV RX4 76 RX1 yX1_farFrom wsX1_farFrom) := goodIn_app (goodIn_of _ (by decide +kernel)) ggX4_move_X1_farFrom
set_option maxRecDepth 20000 in
theorem ggX4_move_X3_letAllGo : GoodIn wsX4_move wsX3_letAllGo := goodIn_r _ [29, 30, 44, 45, 46, 47, 48, 49, 50] (by decide +kernel) (by decide +kernel)
set_option maxRecDepth 20000 in
theorem gX4_move_X3_letAllGo : GoodIn wsX4_move (wsV RX4 49 RX3 yX3_letAllGo wsX3_letAllGo) := goodIn_app (goodIn_of _ (by decide +kernel)) ggX4_move_X3_letAllGo
end
section
theorem dX4_move_0 : decode cX4_move 0 = .ok (.aload_n 0, 1) := by decide +kernel
theorem dX4_move_1 : decode cX4_move 1 = .ok (.getfield 12, 3) := by decide +kernel
theorem dX4_move_4 : decode cX4_move 4 = .ok (.iload_n 1, 1) := by decide +kernel
theorem dX4_move_5 : decode cX4_move 5 = .ok (.invokevirtual 72, 3) := by decide +kernel
theorem dX4_move_8 : decode cX4_move 8 = .ok (.ifCond .ne 5, 3) := by decide +kernel
theorem dX4_move_11 : decode cX4_move 11 = .ok (.iconst (-1), 1) := by decide +kernel
theorem dX4_move_12 : decode cX4_move 12 = .ok (.ireturn, 1) := by decide +kernel
theorem dX4_move_13 : decode cX4_move 13 = .ok (.iload_n 2, 1) := by decide +kernel
theorem dX4_move_14 : decode cX4_move 14 = .ok (.iload_n 3, 1) := by decide +kernel
theorem dX4_move_15 : decode cX4_move 15 = .ok (.invokestatic 56, 3) := by decide +kernel
theorem dX4_move_18 : decode cX4_move 18 = .ok (.ifCond .ne 6, 3) := by decide +kernel
theorem dX4_move_21 : decode cX4_move 21 = .ok (.bipush (-2), 2) := by decide +kernel
theorem dX4_move_23 : decode cX4_move 23 = .ok (.ireturn, 1) := by decide +kernel
theorem dX4_move_24 : decode cX4_move 24 = .ok (.aload_n 0, 1) := by decide +kernel
theorem dX4_move_25 : decode cX4_move 25 = .ok (.getfield 12, 3) := by decide +kernel
theorem dX4_move_28 : decode cX4_move 28 = .ok (.iload_n 2, 1) := by decide +kernel
theorem dX4_move_29 : decode cX4_move 29 = .ok (.iload_n 3, 1) := by decide +kernel
theorem dX4_move_30 : decode cX4_move 30 = .ok (.invokevirtual 59, 3) := by decide +kernel
theorem dX4_move_33 : decode cX4_move 33 = .ok (.istore 4, 2) := by decide +kernel
theorem dX4_move_35 : decode cX4_move 35 = .ok (.iload 4, 2) := by decide +kernel
theorem dX4_move_37 : decode cX4_move 37 = .ok (.iconst (-1), 1) := by decide +kernel
theorem dX4_move_38 : decode cX4_move 38 = .ok (.if_icmp .eq 12, 3) := by decide +kernel
theorem dX4_move_41 : decode cX4_move 41 = .ok (.iload 4, 2) := by decide +kernel
theorem dX4_move_43 : decode cX4_move 43 = .ok (.iload_n 1, 1) := by decide +kernel
theorem dX4_move_44 : decode cX4_move 44 = .ok (.if_icmp .eq 6, 3) := by decide +kernel
theorem dX4_move_47 : decode cX4_move 47 = .ok (.bipush (-5), 2) := by decide +kernel
theorem dX4_move_49 : decode cX4_move 49 = .ok (.ireturn, 1) := by decide +kernel
theorem dX4_move_50 : decode cX4_move 50 = .ok (.aload_n 0, 1) := by decide +kernel
theorem dX4_move_51 : decode cX4_move 51 = .ok (.getfield 12, 3) := by decide +kernel
theorem dX4_move_54 : decode cX4_move 54 = .ok (.iload_n 1, 1) := by decide +kernel
theorem dX4_move_55 : decode cX4_move 55 = .ok (.iload_n 2, 1) := by decide +kernel
theorem dX4_move_56 : decode cX4_move 56 = .ok (.iload_n 3, 1) := by decide +kernel
theorem dX4_move_57 : decode cX4_move 57 = .ok (.invokevirtual 76, 3) := by decide +kernel
theorem dX4_move_60 : decode cX4_move 60 = .ok (.istore 5, 2) := by decide +kernel
theorem dX4_move_62 : decode cX4_move 62 = .ok (.aload_n 0, 1) := by decide +kernel
theorem dX4_move_63 : decode cX4_move 63 = .ok (.getfield 12, 3) := by decide +kernel
theorem dX4_move_66 : decode cX4_move 66 = .ok (.getfield 66, 3) := by decide +kernel
theorem dX4_move_69 : decode cX4_move 69 = .ok (.iload_n 1, 1) := by decide +kernel
theorem dX4_move_70 : decode cX4_move 70 = .ok (.iload_n 2, 1) := by decide +kernel
theorem dX4_move_71 : decode cX4_move 71 = .ok (.iastore, 1) := by decide +kernel
theorem dX4_move_72 : decode cX4_move 72 = .ok (.aload_n 0, 1) := by decide +kernel
theorem dX4_move_73 : decode cX4_move 73 = .ok (.getfield 12, 3) := by decide +kernel
theorem dX4_move_76 : decode cX4_move 76 = .ok (.getfield 69, 3) := by decide +kernel
theorem dX4_move_79 : decode cX4_move 79 = .ok (.iload_n 1, 1) := by decide +kernel
theorem dX4_move_80 : decode cX4_move 80 = .ok (.iload_n 3, 1) := by decide +kernel
theorem dX4_move_81 : decode cX4_move 81 = .ok (.iastore, 1) := by decide +kernel
theorem dX4_move_82 : decode cX4_move 82 = .ok (.aload_n 0, 1) := by decide +kernel
theorem dX4_move_83 : decode cX4_move 83 = .ok (.getfield 27, 3) := by decide +kernel
theorem dX4_move_86 : decode cX4_move 86 = .ok (.invokevirtual 49, 3) := by decide +kernel
theorem dX4_move_89 : decode cX4_move 89 = .ok (.iload 5, 2) := by decide +kernel
theorem dX4_move_91 : decode cX4_move 91 = .ok (.ireturn, 1) := by decide +kernel
set_option maxRecDepth 20000 in
theorem ggX4_reach_X1_knows : GoodIn wsX4_reach wsX1_knows := goodIn_r _ [8, 9, 21, 22, 23, 24, 25, 26, 27, 28] (by decide +kernel) (by decide +kernel)
set_option maxRecDepth 20000 in
theorem gX4_reach_X1_knows : GoodIn wsX4_reach (wsV RX4 72 RX1 yX1_knows wsX1_knows) := goodIn_app (goodIn_of _ (by decide +kernel)) ggX4_reach_X1_knows
set_option maxRecDepth 20000 in
theorem ggX4_reach_X3_letAllGo : GoodIn wsX4_reach wsX3_letAllGo := goodIn_r _ [14, 15, 29, 30, 31, 32, 33, 34, 35] (by decide +kernel) (by decide +kernel)
set_option maxRecDepth 20000 in
theorem gX4_reach_X3_letAllGo : GoodIn wsX4_reach (wsV RX4 49 RX3 yX3_letAllGo wsX3_letAllGo) := goodIn_app (goodIn_of _ (by decide +kernel)) ggX4_reach_X3_letAllGo
theorem dX4_reach_0 : decode cX4_reach 0 = .ok (.aload_n 0, 1) := by decide +kernel
theorem dX4_reach_1 : decode cX4_reach 1 = .ok (.getfield 12, 3) := by decide +kernel
theorem dX4_reach_4 : decode cX4_reach 4 = .ok (.iload_n 1, 1) := by decide +kernel
theorem dX4_reach_5 : decode cX4_reach 5 = .ok (.invokevirtual 72, 3) := by decide +kernel
theorem dX4_reach_8 : decode cX4_reach 8 = .ok (.ifCond .ne 5, 3) := by decide +kernel
theorem dX4_reach_11 : decode cX4_reach 11 = .ok (.iconst (-1), 1) := by decide +kernel
theorem dX4_reach_12 : decode cX4_reach 12 = .ok (.ireturn, 1) := by decide +kernel
theorem dX4_reach_13 : decode cX4_reach 13 = .ok (.iload_n 2, 1) := by decide +kernel
theorem dX4_reach_14 : decode cX4_reach 14 = .ok (.sipush (-400), 3) := by decide +kernel
theorem dX4_reach_17 : decode cX4_reach 17 = .ok (.if_icmp .lt 10, 3) := by decide +kernel
theorem dX4_reach_20 : decode cX4_reach 20 = .ok (.iload_n 2, 1) := by decide +kernel
theorem dX4_reach_21 : decode cX4_reach 21 = .ok (.sipush 400, 3) := by decide +kernel
theorem dX4_reach_24 : decode cX4_reach 24 = .ok (.if_icmp .le 6, 3) := by decide +kernel
theorem dX4_reach_27 : decode cX4_reach 27 = .ok (.bipush (-2), 2) := by decide +kernel
theorem dX4_reach_29 : decode cX4_reach 29 = .ok (.ireturn, 1) := by decide +kernel
theorem dX4_reach_30 : decode cX4_reach 30 = .ok (.aload_n 0, 1) := by decide +kernel
theorem dX4_reach_31 : decode cX4_reach 31 = .ok (.getfield 12, 3) := by decide +kernel
theorem dX4_reach_34 : decode cX4_reach 34 = .ok (.getfield 80, 3) := by decide +kernel
theorem dX4_reach_37 : decode cX4_reach 37 = .ok (.iload_n 1, 1) := by decide +kernel
theorem dX4_reach_38 : decode cX4_reach 38 = .ok (.iaload, 1) := by decide +kernel
theorem dX4_reach_39 : decode cX4_reach 39 = .ok (.istore_n 3, 1) := by decide +kernel
theorem dX4_reach_40 : decode cX4_reach 40 = .ok (.aload_n 0, 1) := by decide +kernel
theorem dX4_reach_41 : decode cX4_reach 41 = .ok (.getfield 12, 3) := by decide +kernel
theorem dX4_reach_44 : decode cX4_reach 44 = .ok (.getfield 80, 3) := by decide +kernel
theorem dX4_reach_47 : decode cX4_reach 47 = .ok (.iload_n 1, 1) := by decide +kernel
theorem dX4_reach_48 : decode cX4_reach 48 = .ok (.iload_n 2, 1) := by decide +kernel
theorem dX4_reach_49 : decode cX4_reach 49 = .ok (.iastore, 1) := by decide +kernel
theorem dX4_reach_50 : decode cX4_reach 50 = .ok (.aload_n 0, 1) := by decide +kernel
theorem dX4_reach_51 : decode cX4_reach 51 = .ok (.getfield 27, 3) := by decide +kernel
theorem dX4_reach_54 : decode cX4_reach 54 = .ok (.invokevirtual 49, 3) := by decide +kernel
theorem dX4_reach_57 : decode cX4_reach 57 = .ok (.iload_n 3, 1) := by decide +kernel
theorem dX4_reach_58 : decode cX4_reach 58 = .ok (.sipush 1000, 3) := by decide +kernel
theorem dX4_reach_61 : decode cX4_reach 61 = .ok (.iadd, 1) := by decide +kernel
theorem dX4_reach_62 : decode cX4_reach 62 = .ok (.ireturn, 1) := by decide +kernel
set_option maxRecDepth 20000 in
theorem ggX4_fail_X1_knows : GoodIn wsX4_fail wsX1_knows := goodIn_r _ [6, 7, 37, 38, 39, 40, 41, 42, 43, 44] (by decide +kernel) (by decide +kernel)
set_option maxRecDepth 20000 in
theorem gX4_fail_X1_knows : GoodIn wsX4_fail (wsV RX4 72 RX1 yX1_knows wsX1_knows) := goodIn_app (goodIn_of _ (by decide +kernel)) ggX4_fail_X1_knows
set_option maxRecDepth 20000 in
theorem ggX4_fail_X4_areDays : GoodIn wsX4_fail wsX4_areDays := goodIn_r _ [11, 12, 13, 10, 14] (by decide +kernel) (by decide +kernel)
set_option maxRecDepth 20000 in
theorem gX4_fail_X4_areDays : GoodIn wsX4_fail (va_wsS RX4 83 yX4_areDays wsX4_areDays) := goodIn_app (goodIn_of _ (by decide +kernel)) ggX4_fail_X4_areDays
set_option maxRecDepth 20000 in
theorem ggX4_fail_X1_putOut : GoodIn wsX4_fail wsX1_putOut := goodIn_r _ [18, 19, 20, 37, 38, 39, 40, 41, 42, 43, 44] (by decide +kernel) (by decide +kernel)
set_option maxRecDepth 20000 in
theorem gX4_fail_X1_putOut : GoodIn wsX4_fail (wsV RX4 86 RX1 yX1_putOut wsX1_putOut) := goodIn_app (goodIn_of _ (by decide +kernel)) ggX4_fail_X1_putOut
set_option maxRecDepth 20000 in
theorem ggX4_fail_X1_daysOut : GoodIn wsX4_fail wsX1_daysOut := goodIn_r _ [24, 19, 25, 26, 27, 28, 29, 30, 31, 37, 38, 39, 40, 41, 42, 43, 44] (by decide +kernel) (by decide +kernel)
set_option maxRecDepth 20000 in
theorem gX4_fail_X1_daysOut : GoodIn wsX4_fail (wsV RX4 90 RX1 yX1_daysOut wsX1_daysOut) := goodIn_app (goodIn_of _ (by decide +kernel)) ggX4_fail_X1_daysOut
theorem dX4_fail_0 : decode cX4_fail 0 = .ok (.aload_n 0, 1) := by decide +kernel
theorem dX4_fail_1 : decode cX4_fail 1 = .ok (.getfield 12, 3) := by decide +kernel
theorem dX4_fail_4 : decode cX4_fail 4 = .ok (.iload_n 1, 1) := by decide +kernel
theorem dX4_fail_5 : decode cX4_fail 5 = .ok (.invokevirtual 72, 3) := by decide +kernel
theorem dX4_fail_8 : decode cX4_fail 8 = .ok (.ifCond .ne 5, 3) := by decide +kernel
theorem dX4_fail_11 : decode cX4_fail 11 = .ok (.iconst (-1), 1) := by decide +kernel
theorem dX4_fail_12 : decode cX4_fail 12 = .ok (.ireturn, 1) := by decide +kernel
theorem dX4_fail_13 : decode cX4_fail 13 = .ok (.iload_n 2, 1) := by decide +kernel
theorem dX4_fail_14 : decode cX4_fail 14 = .ok (.iload_n 3, 1) := by decide +kernel
theorem dX4_fail_15 : decode cX4_fail 15 = .ok (.invokestatic 83, 3) := by decide +kernel
theorem dX4_fail_18 : decode cX4_fail 18 = .ok (.ifCond .eq 14, 3) := by decide +kernel
theorem dX4_fail_21 : decode cX4_fail 21 = .ok (.iload 4, 2) := by decide +kernel
theorem dX4_fail_23 : decode cX4_fail 23 = .ok (.ifCond .eq 12, 3) := by decide +kernel
theorem dX4_fail_26 : decode cX4_fail 26 = .ok (.iload 4, 2) := by decide +kernel
theorem dX4_fail_28 : decode cX4_fail 28 = .ok (.iconst 1, 1) := by decide +kernel
theorem dX4_fail_29 : decode cX4_fail 29 = .ok (.if_icmp .eq 6, 3) := by decide +kernel
theorem dX4_fail_32 : decode cX4_fail 32 = .ok (.bipush (-2), 2) := by decide +kernel
theorem dX4_fail_34 : decode cX4_fail 34 = .ok (.ireturn, 1) := by decide +kernel
theorem dX4_fail_35 : decode cX4_fail 35 = .ok (.iload_n 2, 1) := by decide +kernel
theorem dX4_fail_36 : decode cX4_fail 36 = .ok (.istore 5, 2) := by decide +kernel
theorem dX4_fail_38 : decode cX4_fail 38 = .ok (.iload 5, 2) := by decide +kernel
theorem dX4_fail_40 : decode cX4_fail 40 = .ok (.iload_n 3, 1) := by decide +kernel
theorem dX4_fail_41 : decode cX4_fail 41 = .ok (.if_icmp .gt 30, 3) := by decide +kernel
theorem dX4_fail_44 : decode cX4_fail 44 = .ok (.aload_n 0, 1) := by decide +kernel
theorem dX4_fail_45 : decode cX4_fail 45 = .ok (.getfield 12, 3) := by decide +kernel
theorem dX4_fail_48 : decode cX4_fail 48 = .ok (.iload_n 1, 1) := by decide +kernel
theorem dX4_fail_49 : decode cX4_fail 49 = .ok (.iload 5, 2) := by decide +kernel
theorem dX4_fail_51 : decode cX4_fail 51 = .ok (.iload 4, 2) := by decide +kernel
theorem dX4_fail_53 : decode cX4_fail 53 = .ok (.iconst 1, 1) := by decide +kernel
theorem dX4_fail_54 : decode cX4_fail 54 = .ok (.if_icmp .ne 7, 3) := by decide +kernel
theorem dX4_fail_57 : decode cX4_fail 57 = .ok (.iconst 1, 1) := by decide +kernel
theorem dX4_fail_58 : decode cX4_fail 58 = .ok (.goto 4, 3) := by decide +kernel
theorem dX4_fail_61 : decode cX4_fail 61 = .ok (.iconst 0, 1) := by decide +kernel
theorem dX4_fail_62 : decode cX4_fail 62 = .ok (.invokevirtual 86, 3) := by decide +kernel
theorem dX4_fail_65 : decode cX4_fail 65 = .ok (.iinc 5 1, 3) := by decide +kernel
theorem dX4_fail_68 : decode cX4_fail 68 = .ok (.goto (-30), 3) := by decide +kernel
theorem dX4_fail_71 : decode cX4_fail 71 = .ok (.aload_n 0, 1) := by decide +kernel
theorem dX4_fail_72 : decode cX4_fail 72 = .ok (.getfield 12, 3) := by decide +kernel
theorem dX4_fail_75 : decode cX4_fail 75 = .ok (.iload_n 1, 1) := by decide +kernel
theorem dX4_fail_76 : decode cX4_fail 76 = .ok (.invokevirtual 90, 3) := by decide +kernel
theorem dX4_fail_79 : decode cX4_fail 79 = .ok (.ireturn, 1) := by decide +kernel
set_option maxRecDepth 20000 in
theorem ggX4_rain_X1_knows : GoodIn wsX4_rain wsX1_knows := goodIn_r _ [6, 7, 26, 27, 28, 29, 30, 31, 32, 33] (by decide +kernel) (by decide +kernel)
set_option maxRecDepth 20000 in
theorem gX4_rain_X1_knows : GoodIn wsX4_rain (wsV RX4 72 RX1 yX1_knows wsX1_knows) := goodIn_app (goodIn_of _ (by decide +kernel)) ggX4_rain_X1_knows
set_option maxRecDepth 20000 in
theorem ggX4_rain_X4_isDay : GoodIn wsX4_rain wsX4_isDay := goodIn_r _ [11] (by decide +kernel) (by decide +kernel)
set_option maxRecDepth 20000 in
theorem gX4_rain_X4_isDay : GoodIn wsX4_rain (va_wsS RX4 94 yX4_isDay wsX4_isDay) := goodIn_app (goodIn_of _ (by decide +kernel)) ggX4_rain_X4_isDay
set_option maxRecDepth 20000 in
theorem ggX4_rain_X1_readingOf : GoodIn wsX4_rain wsX1_readingOf := goodIn_r _ [15, 16, 26, 27, 28, 29, 30, 31, 32, 33] (by decide +kernel) (by decide +kernel)
set_option maxRecDepth 20000 in
theorem gX4_rain_X1_readingOf : GoodIn wsX4_rain (wsV RX4 97 RX1 yX1_readingOf wsX1_readingOf) := goodIn_app (goodIn_of _ (by decide +kernel)) ggX4_rain_X1_readingOf
set_option maxRecDepth 20000 in
theorem ggX4_rain_X1_putReading : GoodIn wsX4_rain wsX1_putReading := goodIn_r _ [20, 16, 26, 27, 28, 29, 30, 31, 32, 33] (by decide +kernel) (by decide +kernel)
set_option maxRecDepth 20000 in
theorem gX4_rain_X1_putReading : GoodIn wsX4_rain (wsV RX4 100 RX1 yX1_putReading wsX1_putReading) := goodIn_app (goodIn_of _ (by decide +kernel)) ggX4_rain_X1_putReading
theorem dX4_rain_0 : decode cX4_rain 0 = .ok (.aload_n 0, 1) := by decide +kernel
theorem dX4_rain_1 : decode cX4_rain 1 = .ok (.getfield 12, 3) := by decide +kernel
theorem dX4_rain_4 : decode cX4_rain 4 = .ok (.iload_n 1, 1) := by decide +kernel
theorem dX4_rain_5 : decode cX4_rain 5 = .ok (.invokevirtual 72, 3) := by decide +kernel
theorem dX4_rain_8 : decode cX4_rain 8 = .ok (.ifCond .ne 5, 3) := by decide +kernel
theorem dX4_rain_11 : decode cX4_rain 11 = .ok (.iconst (-1), 1) := by decide +kernel
theorem dX4_rain_12 : decode cX4_rain 12 = .ok (.ireturn, 1) := by decide +kernel
theorem dX4_rain_13 : decode cX4_rain 13 = .ok (.iload_n 2, 1) := by decide +kernel
theorem dX4_rain_14 : decode cX4_rain 14 = .ok (.invokestatic 94, 3) := by decide +kernel
theorem dX4_rain_17 : decode cX4_rain 17 = .ok (.ifCond .eq 20, 3) := by decide +kernel
theorem dX4_rain_20 : decode cX4_rain 20 = .ok (.iload_n 3, 1) := by decide +kernel
theorem dX4_rain_21 : decode cX4_rain 21 = .ok (.bipush (-6), 2) := by decide +kernel
theorem dX4_rain_23 : decode cX4_rain 23 = .ok (.if_icmp .eq 17, 3) := by decide +kernel
theorem dX4_rain_26 : decode cX4_rain 26 = .ok (.iload_n 3, 1) := by decide +kernel
theorem dX4_rain_27 : decode cX4_rain 27 = .ok (.ifCond .lt 10, 3) := by decide +kernel
theorem dX4_rain_30 : decode cX4_rain 30 = .ok (.iload_n 3, 1) := by decide +kernel
theorem dX4_rain_31 : decode cX4_rain 31 = .ok (.sipush 9999, 3) := by decide +kernel
theorem dX4_rain_34 : decode cX4_rain 34 = .ok (.if_icmp .le 6, 3) := by decide +kernel
theorem dX4_rain_37 : decode cX4_rain 37 = .ok (.bipush (-2), 2) := by decide +kernel
theorem dX4_rain_39 : decode cX4_rain 39 = .ok (.ireturn, 1) := by decide +kernel
theorem dX4_rain_40 : decode cX4_rain 40 = .ok (.aload_n 0, 1) := by decide +kernel
theorem dX4_rain_41 : decode cX4_rain 41 = .ok (.getfield 12, 3) := by decide +kernel
theorem dX4_rain_44 : decode cX4_rain 44 = .ok (.iload_n 1, 1) := by decide +kernel
theorem dX4_rain_45 : decode cX4_rain 45 = .ok (.iload_n 2, 1) := by decide +kernel
theorem dX4_rain_46 : decode cX4_rain 46 = .ok (.invokevirtual 97, 3) := by decide +kernel
theorem dX4_rain_49 : decode cX4_rain 49 = .ok (.istore 4, 2) := by decide +kernel
theorem dX4_rain_51 : decode cX4_rain 51 = .ok (.aload_n 0, 1) := by decide +kernel
theorem dX4_rain_52 : decode cX4_rain 52 = .ok (.getfield 12, 3) := by decide +kernel
theorem dX4_rain_55 : decode cX4_rain 55 = .ok (.iload_n 1, 1) := by decide +kernel
theorem dX4_rain_56 : decode cX4_rain 56 = .ok (.iload_n 2, 1) := by decide +kernel
theorem dX4_rain_57 : decode cX4_rain 57 = .ok (.iload_n 3, 1) := by decide +kernel
theorem dX4_rain_58 : decode cX4_rain 58 = .ok (.invokevirtual 100, 3) := by decide +kernel
theorem dX4_rain_61 : decode cX4_rain 61 = .ok (.iload 4, 2) := by decide +kernel
theorem dX4_rain_63 : decode cX4_rain 63 = .ok (.ireturn, 1) := by decide +kernel
set_option maxRecDepth 20000 in
theorem ggX4_of_X1_knows : GoodIn wsX4_of wsX1_knows := goodIn_r _ [9, 10, 37, 38, 39, 40, 41, 42, 43, 44] (by decide +kernel) (by decide +kernel)
set_option maxRecDepth 20000 in
theorem gX4_of_X1_knows : GoodIn wsX4_of (wsV RX4 72 RX1 yX1_knows wsX1_knows) := goodIn_app (goodIn_of _ (by decide +kernel)) ggX4_of_X1_knows
set_option maxRecDepth 20000 in
theorem ggX4_of_X1_daysOut : GoodIn wsX4_of wsX1_daysOut := goodIn_r _ [14, 15, 16, 17, 18, 19, 20, 21, 22, 37, 38, 39, 40, 41, 42, 43, 44] (by decide +kernel) (by decide +kernel)
set_option maxRecDepth 20000 in
theorem gX4_of_X1_daysOut : GoodIn wsX4_of (wsV RX4 90 RX1 yX1_daysOut wsX1_daysOut) := goodIn_app (goodIn_of _ (by decide +kernel)) ggX4_of_X1_daysOut
set_option maxRecDepth 20000 in
theorem ggX4_of_X1_daysRead : GoodIn wsX4_of wsX1_daysRead := goodIn_r _ [26, 27, 28, 29, 8, 30, 31, 37, 38, 39, 40, 41, 42, 43, 44] (by decide +kernel) (by decide +kernel)
set_option maxRecDepth 20000 in
theorem gX4_of_X1_daysRead : GoodIn wsX4_of (wsV RX4 104 RX1 yX1_daysRead wsX1_daysRead) := goodIn_app (goodIn_of _ (by decide +kernel)) ggX4_of_X1_daysRead
theorem dX4_of_0 : decode cX4_of 0 = .ok (.aload_n 0, 1) := by decide +kernel
theorem dX4_of_1 : decode cX4_of 1 = .ok (.getfield 12, 3) := by decide +kernel
theorem dX4_of_4 : decode cX4_of 4 = .ok (.iload_n 1, 1) := by decide +kernel
theorem dX4_of_5 : decode cX4_of 5 = .ok (.invokevirtual 72, 3) := by decide +kernel
theorem dX4_of_8 : decode cX4_of 8 = .ok (.ifCond .ne 5, 3) := by decide +kernel
theorem dX4_of_11 : decode cX4_of 11 = .ok (.iconst (-1), 1) := by decide +kernel
theorem dX4_of_12 : decode cX4_of 12 = .ok (.ireturn, 1) := by decide +kernel
theorem dX4_of_13 : decode cX4_of 13 = .ok (.iload_n 2, 1) := by decide +kernel
theorem dX4_of_14 : decode cX4_of 14 = .ok (.tableswitch 94 0 4 #[34, 48, 62, 76, 85], 34) := by decide +kernel
theorem dX4_of_48 : decode cX4_of 48 = .ok (.aload_n 0, 1) := by decide +kernel
theorem dX4_of_49 : decode cX4_of 49 = .ok (.getfield 12, 3) := by decide +kernel
theorem dX4_of_52 : decode cX4_of 52 = .ok (.getfield 66, 3) := by decide +kernel
theorem dX4_of_55 : decode cX4_of 55 = .ok (.iload_n 1, 1) := by decide +kernel
theorem dX4_of_56 : decode cX4_of 56 = .ok (.iaload, 1) := by decide +kernel
theorem dX4_of_57 : decode cX4_of 57 = .ok (.sipush 1000, 3) := by decide +kernel
theorem dX4_of_60 : decode cX4_of 60 = .ok (.iadd, 1) := by decide +kernel
theorem dX4_of_61 : decode cX4_of 61 = .ok (.ireturn, 1) := by decide +kernel
theorem dX4_of_62 : decode cX4_of 62 = .ok (.aload_n 0, 1) := by decide +kernel
theorem dX4_of_63 : decode cX4_of 63 = .ok (.getfield 12, 3) := by decide +kernel
theorem dX4_of_66 : decode cX4_of 66 = .ok (.getfield 69, 3) := by decide +kernel
theorem dX4_of_69 : decode cX4_of 69 = .ok (.iload_n 1, 1) := by decide +kernel
theorem dX4_of_70 : decode cX4_of 70 = .ok (.iaload, 1) := by decide +kernel
theorem dX4_of_71 : decode cX4_of 71 = .ok (.sipush 1000, 3) := by decide +kernel
theorem dX4_of_74 : decode cX4_of 74 = .ok (.iadd, 1) := by decide +kernel
theorem dX4_of_75 : decode cX4_of 75 = .ok (.ireturn, 1) := by decide +kernel
theorem dX4_of_76 : decode cX4_of 76 = .ok (.aload_n 0, 1) := by decide +kernel
theorem dX4_of_77 : decode cX4_of 77 = .ok (.getfield 12, 3) := by decide +kernel
theorem dX4_of_80 : decode cX4_of 80 = .ok (.getfield 80, 3) := by decide +kernel
theorem dX4_of_83 : decode cX4_of 83 = .ok (.iload_n 1, 1) := by decide +kernel
theorem dX4_of_84 : decode cX4_of 84 = .ok (.iaload, 1) := by decide +kernel
theorem dX4_of_85 : decode cX4_of 85 = .ok (.sipush 1000, 3) := by decide +kernel
theorem dX4_of_88 : decode cX4_of 88 = .ok (.iadd, 1) := by decide +kernel
theorem dX4_of_89 : decode cX4_of 89 = .ok (.ireturn, 1) := by decide +kernel
theorem dX4_of_90 : decode cX4_of 90 = .ok (.aload_n 0, 1) := by decide +kernel
theorem dX4_of_91 : decode cX4_of 91 = .ok (.getfield 12, 3) := by decide +kernel
theorem dX4_of_94 : decode cX4_of 94 = .ok (.iload_n 1, 1) := by decide +kernel
theorem dX4_of_95 : decode cX4_of 95 = .ok (.invokevirtual 90, 3) := by decide +kernel
theorem dX4_of_98 : decode cX4_of 98 = .ok (.ireturn, 1) := by decide +kernel
theorem dX4_of_99 : decode cX4_of 99 = .ok (.aload_n 0, 1) := by decide +kernel
theorem dX4_of_100 : decode cX4_of 100 = .ok (.getfield 12, 3) := by decide +kernel
theorem dX4_of_103 : decode cX4_of 103 = .ok (.iload_n 1, 1) := by decide +kernel
theorem dX4_of_104 : decode cX4_of 104 = .ok (.invokevirtual 104, 3) := by decide +kernel
theorem dX4_of_107 : decode cX4_of 107 = .ok (.ireturn, 1) := by decide +kernel
theorem dX4_of_108 : decode cX4_of 108 = .ok (.bipush (-2), 2) := by decide +kernel
theorem dX4_of_110 : decode cX4_of 110 = .ok (.ireturn, 1) := by decide +kernel
set_option maxRecDepth 20000 in
theorem ggX4_reading_X1_knows : GoodIn wsX4_reading wsX1_knows := goodIn_r _ [6, 7, 22, 23, 24, 25, 26, 27, 28, 29] (by decide +kernel) (by decide +kernel)
set_option maxRecDepth 20000 in
theorem gX4_reading_X1_knows : GoodIn wsX4_reading (wsV RX4 72 RX1 yX1_knows wsX1_knows) := goodIn_app (goodIn_of _ (by decide +kernel)) ggX4_reading_X1_knows
set_option maxRecDepth 20000 in
theorem ggX4_reading_X4_isDay : GoodIn wsX4_reading wsX4_isDay := goodIn_r _ [11] (by decide +kernel) (by decide +kernel)
set_option maxRecDepth 20000 in
theorem gX4_reading_X4_isDay : GoodIn wsX4_reading (va_wsS RX4 94 yX4_isDay wsX4_isDay) := goodIn_app (goodIn_of _ (by decide +kernel)) ggX4_reading_X4_isDay
set_option maxRecDepth 20000 in
theorem ggX4_reading_X1_readingOf : GoodIn wsX4_reading wsX1_readingOf := goodIn_r _ [15, 16, 22, 23, 24, 25, 26, 27, 28, 29] (by decide +kernel) (by decide +kernel)
set_option maxRecDepth 20000 in
theorem gX4_reading_X1_readingOf : GoodIn wsX4_reading (wsV RX4 97 RX1 yX1_readingOf wsX1_readingOf) := goodIn_app (goodIn_of _ (by decide +kernel)) ggX4_reading_X1_readingOf
theorem dX4_reading_0 : decode cX4_reading 0 = .ok (.aload_n 0, 1) := by decide +kernel
theorem dX4_reading_1 : decode cX4_reading 1 = .ok (.getfield 12, 3) := by decide +kernel
theorem dX4_reading_4 : decode cX4_reading 4 = .ok (.iload_n 1, 1) := by decide +kernel
theorem dX4_reading_5 : decode cX4_reading 5 = .ok (.invokevirtual 72, 3) := by decide +kernel
theorem dX4_reading_8 : decode cX4_reading 8 = .ok (.ifCond .ne 5, 3) := by decide +kernel
theorem dX4_reading_11 : decode cX4_reading 11 = .ok (.iconst (-1), 1) := by decide +kernel
theorem dX4_reading_12 : decode cX4_reading 12 = .ok (.ireturn, 1) := by decide +kernel
theorem dX4_reading_13 : decode cX4_reading 13 = .ok (.iload_n 2, 1) := by decide +kernel
theorem dX4_reading_14 : decode cX4_reading 14 = .ok (.invokestatic 94, 3) := by decide +kernel
theorem dX4_reading_17 : decode cX4_reading 17 = .ok (.ifCond .ne 6, 3) := by decide +kernel
theorem dX4_reading_20 : decode cX4_reading 20 = .ok (.bipush (-2), 2) := by decide +kernel
theorem dX4_reading_22 : decode cX4_reading 22 = .ok (.ireturn, 1) := by decide +kernel
theorem dX4_reading_23 : decode cX4_reading 23 = .ok (.aload_n 0, 1) := by decide +kernel
theorem dX4_reading_24 : decode cX4_reading 24 = .ok (.getfield 12, 3) := by decide +kernel
theorem dX4_reading_27 : decode cX4_reading 27 = .ok (.iload_n 1, 1) := by decide +kernel
theorem dX4_reading_28 : decode cX4_reading 28 = .ok (.iload_n 2, 1) := by decide +kernel
theorem dX4_reading_29 : decode cX4_reading 29 = .ok (.invokevirtual 97, 3) := by decide +kernel
theorem dX4_reading_32 : decode cX4_reading 32 = .ok (.ireturn, 1) := by decide +kernel
set_option maxRecDepth 20000 in
theorem ggX4_working_X4_isDay : GoodIn wsX4_working wsX4_isDay := goodIn_r _ [5] (by decide +kernel) (by decide +kernel)
set_option maxRecDepth 20000 in
theorem gX4_working_X4_isDay : GoodIn wsX4_working (va_wsS RX4 94 yX4_isDay wsX4_isDay) := goodIn_app (goodIn_of _ (by decide +kernel)) ggX4_working_X4_isDay
set_option maxRecDepth 20000 in
theorem ggX4_working_X1_workingOn : GoodIn wsX4_working wsX1_workingOn := goodIn_r _ [10, 11, 12, 13, 14, 15, 9, 16, 17, 18, 4, 19, 25, 26, 27, 28, 29, 30, 31, 32] (by decide +kernel) (by decide +kernel)
set_option maxRecDepth 20000 in
theorem gX4_working_X1_workingOn : GoodIn wsX4_working (wsV RX4 107 RX1 yX1_workingOn wsX1_workingOn) := goodIn_app (goodIn_of _ (by decide +kernel)) ggX4_working_X1_workingOn
theorem dX4_working_0 : decode cX4_working 0 = .ok (.iload_n 1, 1) := by decide +kernel
theorem dX4_working_1 : decode cX4_working 1 = .ok (.invokestatic 94, 3) := by decide +kernel
theorem dX4_working_4 : decode cX4_working 4 = .ok (.ifCond .ne 6, 3) := by decide +kernel
theorem dX4_working_7 : decode cX4_working 7 = .ok (.bipush (-2), 2) := by decide +kernel
theorem dX4_working_9 : decode cX4_working 9 = .ok (.ireturn, 1) := by decide +kernel
theorem dX4_working_10 : decode cX4_working 10 = .ok (.aload_n 0, 1) := by decide +kernel
theorem dX4_working_11 : decode cX4_working 11 = .ok (.getfield 12, 3) := by decide +kernel
theorem dX4_working_14 : decode cX4_working 14 = .ok (.iload_n 1, 1) := by decide +kernel
theorem dX4_working_15 : decode cX4_working 15 = .ok (.invokevirtual 107, 3) := by decide +kernel
theorem dX4_working_18 : decode cX4_working 18 = .ok (.ireturn, 1) := by decide +kernel
set_option maxRecDepth 20000 in
theorem ggX4_owner_X4_isDay : GoodIn wsX4_owner wsX4_isDay := goodIn_r _ [6] (by decide +kernel) (by decide +kernel)
set_option maxRecDepth 20000 in
theorem gX4_owner_X4_isDay : GoodIn wsX4_owner (va_wsS RX4 94 yX4_isDay wsX4_isDay) := goodIn_app (goodIn_of _ (by decide +kernel)) ggX4_owner_X4_isDay
set_option maxRecDepth 20000 in
theorem ggX4_owner_X4_isPlot : GoodIn wsX4_owner wsX4_isPlot := goodIn_r _ [9] (by decide +kernel) (by decide +kernel)
set_option maxRecDepth 20000 in
theorem gX4_owner_X4_isPlot : GoodIn wsX4_owner (va_wsS RX4 38 yX4_isPlot wsX4_isPlot) := goodIn_app (goodIn_of _ (by decide +kernel)) ggX4_owner_X4_isPlot
set_option maxRecDepth 20000 in
theorem ggX4_owner_X1_hasPlot : GoodIn wsX4_owner wsX1_hasPlot := goodIn_r _ [14, 15, 16, 81, 82, 83, 84, 85, 86, 87, 88] (by decide +kernel) (by decide +kernel)
set_option maxRecDepth 20000 in
theorem gX4_owner_X1_hasPlot : GoodIn wsX4_owner (wsV RX4 110 RX1 yX1_hasPlot wsX1_hasPlot) := goodIn_app (goodIn_of _ (by decide +kernel)) ggX4_owner_X1_hasPlot
set_option maxRecDepth 20000 in
theorem ggX4_owner_X1_workingOn : GoodIn wsX4_owner wsX1_workingOn := goodIn_r _ [20, 21, 22, 23, 24, 25, 13, 26, 27, 28, 5, 29, 81, 82, 83, 84, 85, 86, 87, 88] (by decide +kernel) (by decide +kernel)
set_option maxRecDepth 20000 in
theorem gX4_owner_X1_workingOn : GoodIn wsX4_owner (wsV RX4 107 RX1 yX1_workingOn wsX1_workingOn) := goodIn_app (goodIn_of _ (by decide +kernel)) ggX4_owner_X1_workingOn
set_option maxRecDepth 20000 in
theorem ggX4_owner_X3_lookUp : GoodIn wsX4_owner wsX3_lookUp := goodIn_r _ [34, 35, 36, 37, 38, 39, 40, 41, 42, 43, 33, 44, 45, 46, 47, 48, 49, 50, 51, 52, 53, 54, 55, 56, 57, 58, 59, 60, 61, 62, 5, 63, 64, 65, 66, 67, 68, 69, 70, 71, 89, 90, 91, 92, 93, 94, 95, 96, 97, 98, 99, 81, 82, 83, 84, 85, 86, 87, 88] (by decide +kernel) (by decide +kernel)
set_option maxRecDepth 20000 in
theorem gX4_owner_X3_lookUp : GoodIn wsX4_owner (wsV RX4 113 RX3 yX3_lookUp wsX3_lookUp) := goodIn_app (goodIn_of _ (by decide +kernel)) ggX4_owner_X3_lookUp
set_option maxRecDepth 20000 in
theorem ggX4_owner_X0_ownerAt : GoodIn wsX4_owner wsX0_ownerAt := goodIn_r _ [75, 56, 8, 5, 9, 96, 97, 98, 99] (by decide +kernel) (by decide +kernel)
set_option maxRecDepth 20000 in
theorem gX4_owner_X0_ownerAt : GoodIn wsX4_owner (wsV RX4 117 RX0 yX0_ownerAt wsX0_ownerAt) := goodIn_app (goodIn_of _ (by decide +kernel)) ggX4_owner_X0_ownerAt
theorem dX4_owner_0 : decode cX4_owner 0 = .ok (.iload_n 1, 1) := by decide +kernel
theorem dX4_owner_1 : decode cX4_owner 1 = .ok (.invokestatic 94, 3) := by decide +kernel
theorem dX4_owner_4 : decode cX4_owner 4 = .ok (.ifCond .eq 11, 3) := by decide +kernel
theorem dX4_owner_7 : decode cX4_owner 7 = .ok (.iload_n 2, 1) := by decide +kernel
theorem dX4_owner_8 : decode cX4_owner 8 = .ok (.iload_n 3, 1) := by decide +kernel
theorem dX4_owner_9 : decode cX4_owner 9 = .ok (.invokestatic 38, 3) := by decide +kernel
theorem dX4_owner_12 : decode cX4_owner 12 = .ok (.ifCond .ne 6, 3) := by decide +kernel
theorem dX4_owner_15 : decode cX4_owner 15 = .ok (.bipush (-2), 2) := by decide +kernel
theorem dX4_owner_17 : decode cX4_owner 17 = .ok (.ireturn, 1) := by decide +kernel
theorem dX4_owner_18 : decode cX4_owner 18 = .ok (.aload_n 0, 1) := by decide +kernel
theorem dX4_owner_19 : decode cX4_owner 19 = .ok (.getfield 12, 3) := by decide +kernel
theorem dX4_owner_22 : decode cX4_owner 22 = .ok (.iload_n 2, 1) := by decide +kernel
theorem dX4_owner_23 : decode cX4_owner 23 = .ok (.iload_n 3, 1) := by decide +kernel
theorem dX4_owner_24 : decode cX4_owner 24 = .ok (.invokevirtual 110, 3) := by decide +kernel
theorem dX4_owner_27 : decode cX4_owner 27 = .ok (.ifCond .ne 6, 3) := by decide +kernel
theorem dX4_owner_30 : decode cX4_owner 30 = .ok (.bipush (-5), 2) := by decide +kernel
theorem dX4_owner_32 : decode cX4_owner 32 = .ok (.ireturn, 1) := by decide +kernel
theorem dX4_owner_33 : decode cX4_owner 33 = .ok (.aload_n 0, 1) := by decide +kernel
theorem dX4_owner_34 : decode cX4_owner 34 = .ok (.getfield 12, 3) := by decide +kernel
theorem dX4_owner_37 : decode cX4_owner 37 = .ok (.iload_n 1, 1) := by decide +kernel
theorem dX4_owner_38 : decode cX4_owner 38 = .ok (.invokevirtual 107, 3) := by decide +kernel
theorem dX4_owner_41 : decode cX4_owner 41 = .ok (.istore 4, 2) := by decide +kernel
theorem dX4_owner_43 : decode cX4_owner 43 = .ok (.iload 4, 2) := by decide +kernel
theorem dX4_owner_45 : decode cX4_owner 45 = .ok (.ifCond .ne 6, 3) := by decide +kernel
theorem dX4_owner_48 : decode cX4_owner 48 = .ok (.bipush (-6), 2) := by decide +kernel
theorem dX4_owner_50 : decode cX4_owner 50 = .ok (.ireturn, 1) := by decide +kernel
theorem dX4_owner_51 : decode cX4_owner 51 = .ok (.aload_n 0, 1) := by decide +kernel
theorem dX4_owner_52 : decode cX4_owner 52 = .ok (.getfield 27, 3) := by decide +kernel
theorem dX4_owner_55 : decode cX4_owner 55 = .ok (.aload_n 0, 1) := by decide +kernel
theorem dX4_owner_56 : decode cX4_owner 56 = .ok (.getfield 12, 3) := by decide +kernel
theorem dX4_owner_59 : decode cX4_owner 59 = .ok (.iload 4, 2) := by decide +kernel
theorem dX4_owner_61 : decode cX4_owner 61 = .ok (.invokevirtual 113, 3) := by decide +kernel
theorem dX4_owner_64 : decode cX4_owner 64 = .ok (.iload_n 2, 1) := by decide +kernel
theorem dX4_owner_65 : decode cX4_owner 65 = .ok (.iload_n 3, 1) := by decide +kernel
theorem dX4_owner_66 : decode cX4_owner 66 = .ok (.invokevirtual 117, 3) := by decide +kernel
theorem dX4_owner_69 : decode cX4_owner 69 = .ok (.ireturn, 1) := by decide +kernel
set_option maxRecDepth 20000 in
theorem ggX4_cell_X1_knows : GoodIn wsX4_cell wsX1_knows := goodIn_r _ [8, 9, 102, 103, 104, 105, 106, 107, 108, 109] (by decide +kernel) (by decide +kernel)
set_option maxRecDepth 20000 in
theorem gX4_cell_X1_knows : GoodIn wsX4_cell (wsV RX4 72 RX1 yX1_knows wsX1_knows) := goodIn_app (goodIn_of _ (by decide +kernel)) ggX4_cell_X1_knows
set_option maxRecDepth 20000 in
theorem ggX4_cell_X4_isDay : GoodIn wsX4_cell wsX4_isDay := goodIn_r _ [13] (by decide +kernel) (by decide +kernel)
set_option maxRecDepth 20000 in
theorem gX4_cell_X4_isDay : GoodIn wsX4_cell (va_wsS RX4 94 yX4_isDay wsX4_isDay) := goodIn_app (goodIn_of _ (by decide +kernel)) ggX4_cell_X4_isDay
set_option maxRecDepth 20000 in
theorem ggX4_cell_X4_cellsOn : GoodIn wsX4_cell wsX4_cellsOn := goodIn_r _ [17, 1, 18, 19, 20, 21, 22, 7, 23, 9, 24, 25, 26, 27, 28, 29, 30, 12, 31, 32, 33, 34, 35, 36, 37, 38, 39, 40, 41, 42, 43, 44, 45, 46, 47, 48, 49, 50, 51, 52, 53, 54, 55, 56, 57, 58, 59, 60, 61, 62, 63, 64, 65, 66, 67, 68, 69, 70, 71, 72, 73, 93, 94, 95, 96, 97, 110, 111, 112, 113, 114, 115, 116, 102, 103, 104, 105, 106, 107, 108, 109, 98, 99, 100, 101] (by decide +kernel) (by decide +kernel)
set_option maxRecDepth 20000 in
theorem gX4_cell_X4_cellsOn : GoodIn wsX4_cell (wsV RX4 122 RX4 yX4_cellsOn wsX4_cellsOn) := goodIn_app (goodIn_of _ (by decide +kernel)) ggX4_cell_X4_cellsOn
set_option maxRecDepth 20000 in
theorem ggX4_cell_X1_plotCount : GoodIn wsX4_cell wsX1_plotCount := goodIn_r _ [77, 78, 79, 80, 81, 82, 7, 83, 102, 103, 104, 105, 106, 107, 108, 109] (by decide +kernel) (by decide +kernel)
set_option maxRecDepth 20000 in
theorem gX4_cell_X1_plotCount : GoodIn wsX4_cell (wsV RX4 52 RX1 yX1_plotCount wsX1_plotCount) := goodIn_app (goodIn_of _ (by decide +kernel)) ggX4_cell_X1_plotCount
set_option maxRecDepth 20000 in
theorem ggX4_cell_X4_upper : GoodIn wsX4_cell wsX4_upper := goodIn_r _ [86, 87, 88, 12, 89] (by decide +kernel) (by decide +kernel)
set_option maxRecDepth 20000 in
theorem gX4_cell_X4_upper : GoodIn wsX4_cell (va_wsS RX4 129 yX4_upper wsX4_upper) := goodIn_app (goodIn_of _ (by decide +kernel)) ggX4_cell_X4_upper
set_option maxRecDepth 20000 in
theorem ggX4_cell_X4_lower : GoodIn wsX4_cell wsX4_lower := goodIn_r _ [92, 87, 88, 12, 89] (by decide +kernel) (by decide +kernel)
set_option maxRecDepth 20000 in
theorem gX4_cell_X4_lower : GoodIn wsX4_cell (va_wsS RX4 132 yX4_lower wsX4_lower) := goodIn_app (goodIn_of _ (by decide +kernel)) ggX4_cell_X4_lower
theorem dX4_cell_0 : decode cX4_cell 0 = .ok (.aload_n 0, 1) := by decide +kernel
theorem dX4_cell_1 : decode cX4_cell 1 = .ok (.getfield 12, 3) := by decide +kernel
theorem dX4_cell_4 : decode cX4_cell 4 = .ok (.iload_n 2, 1) := by decide +kernel
theorem dX4_cell_5 : decode cX4_cell 5 = .ok (.invokevirtual 72, 3) := by decide +kernel
theorem dX4_cell_8 : decode cX4_cell 8 = .ok (.ifCond .ne 5, 3) := by decide +kernel
theorem dX4_cell_11 : decode cX4_cell 11 = .ok (.iconst (-1), 1) := by decide +kernel
theorem dX4_cell_12 : decode cX4_cell 12 = .ok (.ireturn, 1) := by decide +kernel
theorem dX4_cell_13 : decode cX4_cell 13 = .ok (.iload_n 1, 1) := by decide +kernel
theorem dX4_cell_14 : decode cX4_cell 14 = .ok (.invokestatic 94, 3) := by decide +kernel
theorem dX4_cell_17 : decode cX4_cell 17 = .ok (.ifCond .eq 12, 3) := by decide +kernel
theorem dX4_cell_20 : decode cX4_cell 20 = .ok (.iload_n 3, 1) := by decide +kernel
theorem dX4_cell_21 : decode cX4_cell 21 = .ok (.ifCond .lt 8, 3) := by decide +kernel
theorem dX4_cell_24 : decode cX4_cell 24 = .ok (.iload_n 3, 1) := by decide +kernel
theorem dX4_cell_25 : decode cX4_cell 25 = .ok (.iconst 3, 1) := by decide +kernel
theorem dX4_cell_26 : decode cX4_cell 26 = .ok (.if_icmp .le 6, 3) := by decide +kernel
theorem dX4_cell_29 : decode cX4_cell 29 = .ok (.bipush (-2), 2) := by decide +kernel
theorem dX4_cell_31 : decode cX4_cell 31 = .ok (.ireturn, 1) := by decide +kernel
theorem dX4_cell_32 : decode cX4_cell 32 = .ok (.aload_n 0, 1) := by decide +kernel
theorem dX4_cell_33 : decode cX4_cell 33 = .ok (.iload_n 1, 1) := by decide +kernel
theorem dX4_cell_34 : decode cX4_cell 34 = .ok (.invokevirtual 122, 3) := by decide +kernel
theorem dX4_cell_37 : decode cX4_cell 37 = .ok (.astore 4, 2) := by decide +kernel
theorem dX4_cell_39 : decode cX4_cell 39 = .ok (.iload_n 3, 1) := by decide +kernel
theorem dX4_cell_40 : decode cX4_cell 40 = .ok (.tableswitch 72 0 2 #[28, 36, 54], 28) := by decide +kernel
theorem dX4_cell_68 : decode cX4_cell 68 = .ok (.aload 4, 2) := by decide +kernel
theorem dX4_cell_70 : decode cX4_cell 70 = .ok (.getfield 126, 3) := by decide +kernel
theorem dX4_cell_73 : decode cX4_cell 73 = .ok (.iload_n 2, 1) := by decide +kernel
theorem dX4_cell_74 : decode cX4_cell 74 = .ok (.iaload, 1) := by decide +kernel
theorem dX4_cell_75 : decode cX4_cell 75 = .ok (.ireturn, 1) := by decide +kernel
theorem dX4_cell_76 : decode cX4_cell 76 = .ok (.aload 4, 2) := by decide +kernel
theorem dX4_cell_78 : decode cX4_cell 78 = .ok (.getfield 126, 3) := by decide +kernel
theorem dX4_cell_81 : decode cX4_cell 81 = .ok (.iload_n 2, 1) := by decide +kernel
theorem dX4_cell_82 : decode cX4_cell 82 = .ok (.iaload, 1) := by decide +kernel
theorem dX4_cell_83 : decode cX4_cell 83 = .ok (.aload_n 0, 1) := by decide +kernel
theorem dX4_cell_84 : decode cX4_cell 84 = .ok (.getfield 12, 3) := by decide +kernel
theorem dX4_cell_87 : decode cX4_cell 87 = .ok (.invokevirtual 52, 3) := by decide +kernel
theorem dX4_cell_90 : decode cX4_cell 90 = .ok (.invokestatic 129, 3) := by decide +kernel
theorem dX4_cell_93 : decode cX4_cell 93 = .ok (.ireturn, 1) := by decide +kernel
theorem dX4_cell_94 : decode cX4_cell 94 = .ok (.aload 4, 2) := by decide +kernel
theorem dX4_cell_96 : decode cX4_cell 96 = .ok (.getfield 126, 3) := by decide +kernel
theorem dX4_cell_99 : decode cX4_cell 99 = .ok (.iload_n 2, 1) := by decide +kernel
theorem dX4_cell_100 : decode cX4_cell 100 = .ok (.iaload, 1) := by decide +kernel
theorem dX4_cell_101 : decode cX4_cell 101 = .ok (.aload_n 0, 1) := by decide +kernel
theorem dX4_cell_102 : decode cX4_cell 102 = .ok (.getfield 12, 3) := by decide +kernel
theorem dX4_cell_105 : decode cX4_cell 105 = .ok (.invokevirtual 52, 3) := by decide +kernel
theorem dX4_cell_108 : decode cX4_cell 108 = .ok (.invokestatic 132, 3) := by decide +kernel
theorem dX4_cell_111 : decode cX4_cell 111 = .ok (.ireturn, 1) := by decide +kernel
theorem dX4_cell_112 : decode cX4_cell 112 = .ok (.aload 4, 2) := by decide +kernel
theorem dX4_cell_114 : decode cX4_cell 114 = .ok (.getfield 135, 3) := by decide +kernel
theorem dX4_cell_117 : decode cX4_cell 117 = .ok (.iload_n 2, 1) := by decide +kernel
theorem dX4_cell_118 : decode cX4_cell 118 = .ok (.iaload, 1) := by decide +kernel
theorem dX4_cell_119 : decode cX4_cell 119 = .ok (.ireturn, 1) := by decide +kernel
set_option maxRecDepth 20000 in
theorem ggX4_border_X1_knows : GoodIn wsX4_border wsX1_knows := goodIn_r _ [6, 7, 87, 88, 89, 90, 91, 92, 93, 94] (by decide +kernel) (by decide +kernel)
set_option maxRecDepth 20000 in
theorem gX4_border_X1_knows : GoodIn wsX4_border (wsV RX4 72 RX1 yX1_knows wsX1_knows) := goodIn_app (goodIn_of _ (by decide +kernel)) ggX4_border_X1_knows
set_option maxRecDepth 20000 in
theorem ggX4_border_X4_isDay : GoodIn wsX4_border wsX4_isDay := goodIn_r _ [11] (by decide +kernel) (by decide +kernel)
set_option maxRecDepth 20000 in
theorem gX4_border_X4_isDay : GoodIn wsX4_border (va_wsS RX4 94 yX4_isDay wsX4_isDay) := goodIn_app (goodIn_of _ (by decide +kernel)) ggX4_border_X4_isDay
set_option maxRecDepth 20000 in
theorem ggX4_border_X4_cellsOn : GoodIn wsX4_border wsX4_cellsOn := goodIn_r _ [15, 1, 16, 17, 18, 19, 20, 5, 21, 7, 22, 23, 24, 25, 26, 27, 28, 10, 29, 30, 31, 32, 33, 34, 35, 36, 37, 38, 39, 40, 41, 42, 43, 44, 45, 46, 47, 48, 49, 50, 51, 52, 53, 54, 55, 56, 57, 58, 59, 60, 61, 62, 63, 64, 65, 66, 67, 68, 69, 70, 71, 82, 83, 84, 85, 86, 95, 96, 97, 98, 99, 100, 101, 87, 88, 89, 90, 91, 92, 93, 94, 102, 103, 104, 105] (by decide +kernel) (by decide +kernel)
set_option maxRecDepth 20000 in
theorem gX4_border_X4_cellsOn : GoodIn wsX4_border (wsV RX4 122 RX4 yX4_cellsOn wsX4_cellsOn) := goodIn_app (goodIn_of _ (by decide +kernel)) ggX4_border_X4_cellsOn
set_option maxRecDepth 20000 in
theorem ggX4_border_X0_sidesTo : GoodIn wsX4_border wsX0_sidesTo := goodIn_r _ [75, 76, 77, 78, 53, 79, 56, 80, 10, 81, 102, 103, 104, 105] (by decide +kernel) (by decide +kernel)
set_option maxRecDepth 20000 in
theorem gX4_border_X0_sidesTo : GoodIn wsX4_border (wsV RX4 138 RX0 yX0_sidesTo wsX0_sidesTo) := goodIn_app (goodIn_of _ (by decide +kernel)) ggX4_border_X0_sidesTo
theorem dX4_border_0 : decode cX4_border 0 = .ok (.aload_n 0, 1) := by decide +kernel
theorem dX4_border_1 : decode cX4_border 1 = .ok (.getfield 12, 3) := by decide +kernel
theorem dX4_border_4 : decode cX4_border 4 = .ok (.iload_n 2, 1) := by decide +kernel
theorem dX4_border_5 : decode cX4_border 5 = .ok (.invokevirtual 72, 3) := by decide +kernel
theorem dX4_border_8 : decode cX4_border 8 = .ok (.ifCond .eq 14, 3) := by decide +kernel
theorem dX4_border_11 : decode cX4_border 11 = .ok (.aload_n 0, 1) := by decide +kernel
theorem dX4_border_12 : decode cX4_border 12 = .ok (.getfield 12, 3) := by decide +kernel
theorem dX4_border_15 : decode cX4_border 15 = .ok (.iload_n 3, 1) := by decide +kernel
theorem dX4_border_16 : decode cX4_border 16 = .ok (.invokevirtual 72, 3) := by decide +kernel
theorem dX4_border_19 : decode cX4_border 19 = .ok (.ifCond .ne 5, 3) := by decide +kernel
theorem dX4_border_22 : decode cX4_border 22 = .ok (.iconst (-1), 1) := by decide +kernel
theorem dX4_border_23 : decode cX4_border 23 = .ok (.ireturn, 1) := by decide +kernel
theorem dX4_border_24 : decode cX4_border 24 = .ok (.iload_n 1, 1) := by decide +kernel
theorem dX4_border_25 : decode cX4_border 25 = .ok (.invokestatic 94, 3) := by decide +kernel
theorem dX4_border_28 : decode cX4_border 28 = .ok (.ifCond .ne 6, 3) := by decide +kernel
theorem dX4_border_31 : decode cX4_border 31 = .ok (.bipush (-2), 2) := by decide +kernel
theorem dX4_border_33 : decode cX4_border 33 = .ok (.ireturn, 1) := by decide +kernel
theorem dX4_border_34 : decode cX4_border 34 = .ok (.aload_n 0, 1) := by decide +kernel
theorem dX4_border_35 : decode cX4_border 35 = .ok (.iload_n 1, 1) := by decide +kernel
theorem dX4_border_36 : decode cX4_border 36 = .ok (.invokevirtual 122, 3) := by decide +kernel
theorem dX4_border_39 : decode cX4_border 39 = .ok (.iload_n 2, 1) := by decide +kernel
theorem dX4_border_40 : decode cX4_border 40 = .ok (.iload_n 2, 1) := by decide +kernel
theorem dX4_border_41 : decode cX4_border 41 = .ok (.iload_n 3, 1) := by decide +kernel
theorem dX4_border_42 : decode cX4_border 42 = .ok (.if_icmp .ne 7, 3) := by decide +kernel
theorem dX4_border_45 : decode cX4_border 45 = .ok (.iconst (-1), 1) := by decide +kernel
theorem dX4_border_46 : decode cX4_border 46 = .ok (.goto 4, 3) := by decide +kernel
theorem dX4_border_49 : decode cX4_border 49 = .ok (.iload_n 3, 1) := by decide +kernel
theorem dX4_border_50 : decode cX4_border 50 = .ok (.invokevirtual 138, 3) := by decide +kernel
theorem dX4_border_53 : decode cX4_border 53 = .ok (.ireturn, 1) := by decide +kernel
set_option maxRecDepth 20000 in
theorem ggX4_neighbours_X1_knows : GoodIn wsX4_neighbours wsX1_knows := goodIn_r _ [6, 7, 93, 94, 95, 96, 97, 98, 99, 100] (by decide +kernel) (by decide +kernel)
set_option maxRecDepth 20000 in
theorem gX4_neighbours_X1_knows : GoodIn wsX4_neighbours (wsV RX4 72 RX1 yX1_knows wsX1_knows) := goodIn_app (goodIn_of _ (by decide +kernel)) ggX4_neighbours_X1_knows
set_option maxRecDepth 20000 in
theorem ggX4_neighbours_X4_isDay : GoodIn wsX4_neighbours wsX4_isDay := goodIn_r _ [11] (by decide +kernel) (by decide +kernel)
set_option maxRecDepth 20000 in
theorem gX4_neighbours_X4_isDay : GoodIn wsX4_neighbours (va_wsS RX4 94 yX4_isDay wsX4_isDay) := goodIn_app (goodIn_of _ (by decide +kernel)) ggX4_neighbours_X4_isDay
set_option maxRecDepth 20000 in
theorem ggX4_neighbours_X4_cellsOn : GoodIn wsX4_neighbours wsX4_cellsOn := goodIn_r _ [15, 1, 16, 17, 18, 19, 20, 5, 21, 7, 22, 23, 24, 25, 26, 27, 28, 10, 29, 30, 31, 32, 33, 34, 35, 36, 37, 38, 39, 40, 41, 42, 43, 44, 45, 46, 47, 48, 49, 50, 51, 52, 53, 54, 55, 56, 57, 58, 59, 60, 61, 62, 63, 64, 65, 66, 67, 68, 69, 70, 71, 88, 89, 90, 91, 92, 101, 102, 103, 104, 105, 106, 107, 93, 94, 95, 96, 97, 98, 99, 100, 108, 109, 110, 111] (by decide +kernel) (by decide +kernel)
set_option maxRecDepth 20000 in
theorem gX4_neighbours_X4_cellsOn : GoodIn wsX4_neighbours (wsV RX4 122 RX4 yX4_cellsOn wsX4_cellsOn) := goodIn_app (goodIn_of _ (by decide +kernel)) ggX4_neighbours_X4_cellsOn
set_option maxRecDepth 20000 in
theorem ggX4_neighbours_X0_touching : GoodIn wsX4_neighbours wsX0_touching := goodIn_r _ [75, 76, 77, 78, 53, 79, 56, 80, 10, 81, 82, 83, 84, 85, 28, 29, 86, 87, 108, 109, 110, 111] (by decide +kernel) (by decide +kernel)
set_option maxRecDepth 20000 in
theorem gX4_neighbours_X0_touching : GoodIn wsX4_neighbours (wsV RX4 141 RX0 yX0_touching wsX0_touching) := goodIn_app (goodIn_of _ (by decide +kernel)) ggX4_neighbours_X0_touching
theorem dX4_neighbours_0 : decode cX4_neighbours 0 = .ok (.aload_n 0, 1) := by decide +kernel
theorem dX4_neighbours_1 : decode cX4_neighbours 1 = .ok (.getfield 12, 3) := by decide +kernel
theorem dX4_neighbours_4 : decode cX4_neighbours 4 = .ok (.iload_n 2, 1) := by decide +kernel
theorem dX4_neighbours_5 : decode cX4_neighbours 5 = .ok (.invokevirtual 72, 3) := by decide +kernel
theorem dX4_neighbours_8 : decode cX4_neighbours 8 = .ok (.ifCond .ne 5, 3) := by decide +kernel
theorem dX4_neighbours_11 : decode cX4_neighbours 11 = .ok (.iconst (-1), 1) := by decide +kernel
theorem dX4_neighbours_12 : decode cX4_neighbours 12 = .ok (.ireturn, 1) := by decide +kernel
theorem dX4_neighbours_13 : decode cX4_neighbours 13 = .ok (.iload_n 1, 1) := by decide +kernel
theorem dX4_neighbours_14 : decode cX4_neighbours 14 = .ok (.invokestatic 94, 3) := by decide +kernel
theorem dX4_neighbours_17 : decode cX4_neighbours 17 = .ok (.ifCond .ne 6, 3) := by decide +kernel
theorem dX4_neighbours_20 : decode cX4_neighbours 20 = .ok (.bipush (-2), 2) := by decide +kernel
theorem dX4_neighbours_22 : decode cX4_neighbours 22 = .ok (.ireturn, 1) := by decide +kernel
theorem dX4_neighbours_23 : decode cX4_neighbours 23 = .ok (.aload_n 0, 1) := by decide +kernel
theorem dX4_neighbours_24 : decode cX4_neighbours 24 = .ok (.iload_n 1, 1) := by decide +kernel
theorem dX4_neighbours_25 : decode cX4_neighbours 25 = .ok (.invokevirtual 122, 3) := by decide +kernel
theorem dX4_neighbours_28 : decode cX4_neighbours 28 = .ok (.iload_n 2, 1) := by decide +kernel
theorem dX4_neighbours_29 : decode cX4_neighbours 29 = .ok (.invokevirtual 141, 3) := by decide +kernel
theorem dX4_neighbours_32 : decode cX4_neighbours 32 = .ok (.ireturn, 1) := by decide +kernel
set_option maxRecDepth 20000 in
theorem ggX4_mean_X4_isDay : GoodIn wsX4_mean wsX4_isDay := goodIn_r _ [5] (by decide +kernel) (by decide +kernel)
set_option maxRecDepth 20000 in
theorem gX4_mean_X4_isDay : GoodIn wsX4_mean (va_wsS RX4 94 yX4_isDay wsX4_isDay) := goodIn_app (goodIn_of _ (by decide +kernel)) ggX4_mean_X4_isDay
set_option maxRecDepth 20000 in
theorem ggX4_mean_X4_isPart : GoodIn wsX4_mean wsX4_isPart := goodIn_r _ [8] (by decide +kernel) (by decide +kernel)
set_option maxRecDepth 20000 in
theorem gX4_mean_X4_isPart : GoodIn wsX4_mean (va_wsS RX4 144 yX4_isPart wsX4_isPart) := goodIn_app (goodIn_of _ (by decide +kernel)) ggX4_mean_X4_isPart
set_option maxRecDepth 20000 in
theorem ggX4_mean_X4_hasMean : GoodIn wsX4_mean wsX4_hasMean := goodIn_r _ [12, 1, 13, 14, 15, 16, 17, 18, 19, 20, 21, 22, 23, 24, 25, 4, 26, 27, 28, 29, 30, 31, 32, 33, 34, 35, 36, 104, 105, 106, 107, 108, 109, 110, 111, 112, 113, 114, 115, 116] (by decide +kernel) (by decide +kernel)
set_option maxRecDepth 20000 in
theorem gX4_mean_X4_hasMean : GoodIn wsX4_mean (wsV RX4 147 RX4 yX4_hasMean wsX4_hasMean) := goodIn_app (goodIn_of _ (by decide +kernel)) ggX4_mean_X4_hasMean
set_option maxRecDepth 20000 in
theorem ggX4_mean_X4_rainOn : GoodIn wsX4_mean wsX4_rainOn := goodIn_r _ [40, 1, 41, 42, 43, 44, 45, 4, 46, 47, 48, 13, 14, 15, 16, 17, 18, 19, 20, 21, 22, 23, 24, 25, 26, 49, 50, 51, 52, 53, 54, 55, 56, 57, 58, 59, 60, 61, 62, 63, 64, 65, 66, 67, 68, 69, 70, 71, 72, 73, 74, 75, 76, 77, 78, 79, 80, 81, 82, 83, 84, 85, 86, 87, 88, 89, 90, 91, 104, 105, 106, 107, 108, 109, 110, 111, 112, 113, 114, 115, 116, 117, 118, 119, 120, 121, 122, 123, 124, 125, 126, 127] (by decide +kernel) (by decide +kernel)
set_option maxRecDepth 20000 in
theorem gX4_mean_X4_rainOn : GoodIn wsX4_mean (wsV RX4 150 RX4 yX4_rainOn wsX4_rainOn) := goodIn_app (goodIn_of _ (by decide +kernel)) ggX4_mean_X4_rainOn
set_option maxRecDepth 20000 in
theorem ggX4_mean_X1_plotCount : GoodIn wsX4_mean wsX1_plotCount := goodIn_r _ [30, 31, 32, 33, 34, 35, 16, 36, 109, 110, 111, 112, 113, 114, 115, 116] (by decide +kernel) (by decide +kernel)
set_option maxRecDepth 20000 in
theorem gX4_mean_X1_plotCount : GoodIn wsX4_mean (wsV RX4 52 RX1 yX1_plotCount wsX1_plotCount) := goodIn_app (goodIn_of _ (by decide +kernel)) ggX4_mean_X1_plotCount
set_option maxRecDepth 20000 in
theorem ggX4_mean_X4_part : GoodIn wsX4_mean wsX4_part := goodIn_r _ [94, 95, 96, 4, 97, 98, 99, 100, 101, 102, 103] (by decide +kernel) (by decide +kernel)
set_option maxRecDepth 20000 in
theorem gX4_mean_X4_part : GoodIn wsX4_mean (va_wsS RX4 153 yX4_part wsX4_part) := goodIn_app (goodIn_of _ (by decide +kernel)) ggX4_mean_X4_part
theorem dX4_mean_0 : decode cX4_mean 0 = .ok (.iload_n 1, 1) := by decide +kernel
theorem dX4_mean_1 : decode cX4_mean 1 = .ok (.invokestatic 94, 3) := by decide +kernel
theorem dX4_mean_4 : decode cX4_mean 4 = .ok (.ifCond .eq 10, 3) := by decide +kernel
theorem dX4_mean_7 : decode cX4_mean 7 = .ok (.iload_n 2, 1) := by decide +kernel
theorem dX4_mean_8 : decode cX4_mean 8 = .ok (.invokestatic 144, 3) := by decide +kernel
theorem dX4_mean_11 : decode cX4_mean 11 = .ok (.ifCond .ne 6, 3) := by decide +kernel
theorem dX4_mean_14 : decode cX4_mean 14 = .ok (.bipush (-2), 2) := by decide +kernel
theorem dX4_mean_16 : decode cX4_mean 16 = .ok (.ireturn, 1) := by decide +kernel
theorem dX4_mean_17 : decode cX4_mean 17 = .ok (.aload_n 0, 1) := by decide +kernel
theorem dX4_mean_18 : decode cX4_mean 18 = .ok (.iload_n 1, 1) := by decide +kernel
theorem dX4_mean_19 : decode cX4_mean 19 = .ok (.invokevirtual 147, 3) := by decide +kernel
theorem dX4_mean_22 : decode cX4_mean 22 = .ok (.ifCond .ne 6, 3) := by decide +kernel
theorem dX4_mean_25 : decode cX4_mean 25 = .ok (.bipush (-3), 2) := by decide +kernel
theorem dX4_mean_27 : decode cX4_mean 27 = .ok (.ireturn, 1) := by decide +kernel
theorem dX4_mean_28 : decode cX4_mean 28 = .ok (.iload_n 2, 1) := by decide +kernel
theorem dX4_mean_29 : decode cX4_mean 29 = .ok (.aload_n 0, 1) := by decide +kernel
theorem dX4_mean_30 : decode cX4_mean 30 = .ok (.iload_n 1, 1) := by decide +kernel
theorem dX4_mean_31 : decode cX4_mean 31 = .ok (.invokevirtual 150, 3) := by decide +kernel
theorem dX4_mean_34 : decode cX4_mean 34 = .ok (.aload_n 0, 1) := by decide +kernel
theorem dX4_mean_35 : decode cX4_mean 35 = .ok (.getfield 12, 3) := by decide +kernel
theorem dX4_mean_38 : decode cX4_mean 38 = .ok (.invokevirtual 52, 3) := by decide +kernel
theorem dX4_mean_41 : decode cX4_mean 41 = .ok (.invokestatic 153, 3) := by decide +kernel
theorem dX4_mean_44 : decode cX4_mean 44 = .ok (.ireturn, 1) := by decide +kernel
set_option maxRecDepth 20000 in
theorem ggX4_total_X4_areDays : GoodIn wsX4_total wsX4_areDays := goodIn_r _ [5, 6, 7, 4, 8] (by decide +kernel) (by decide +kernel)
set_option maxRecDepth 20000 in
theorem gX4_total_X4_areDays : GoodIn wsX4_total (va_wsS RX4 83 yX4_areDays wsX4_areDays) := goodIn_app (goodIn_of _ (by decide +kernel)) ggX4_total_X4_areDays
set_option maxRecDepth 20000 in
theorem ggX4_total_X4_hasMean : GoodIn wsX4_total wsX4_hasMean := goodIn_r _ [12, 1, 13, 14, 15, 16, 17, 18, 19, 20, 21, 22, 23, 24, 25, 4, 26, 27, 28, 29, 30, 31, 32, 33, 34, 35, 36, 104, 105, 106, 107, 108, 109, 110, 111, 112, 113, 114, 115, 116] (by decide +kernel) (by decide +kernel)
set_option maxRecDepth 20000 in
theorem gX4_total_X4_hasMean : GoodIn wsX4_total (wsV RX4 147 RX4 yX4_hasMean wsX4_hasMean) := goodIn_app (goodIn_of _ (by decide +kernel)) ggX4_total_X4_hasMean
set_option maxRecDepth 20000 in
theorem ggX4_total_X4_rainOn : GoodIn wsX4_total wsX4_rainOn := goodIn_r _ [40, 1, 41, 42, 43, 44, 45, 4, 46, 47, 48, 13, 14, 15, 16, 17, 18, 19, 20, 21, 22, 23, 24, 25, 26, 49, 50, 51, 52, 53, 54, 55, 56, 57, 58, 59, 60, 61, 62, 63, 64, 65, 66, 67, 68, 69, 70, 71, 72, 73, 74, 75, 76, 77, 78, 79, 80, 81, 82, 83, 84, 85, 86, 87, 88, 89, 90, 91, 104, 105, 106, 107, 108, 109, 110, 111, 112, 113, 114, 115, 116, 117, 118, 119, 120, 121, 122, 123, 124, 125, 126, 127] (by decide +kernel) (by decide +kernel)
set_option maxRecDepth 20000 in
theorem gX4_total_X4_rainOn : GoodIn wsX4_total (wsV RX4 150 RX4 yX4_rainOn wsX4_rainOn) := goodIn_app (goodIn_of _ (by decide +kernel)) ggX4_total_X4_rainOn
set_option maxRecDepth 20000 in
theorem ggX4_total_X1_plotCount : GoodIn wsX4_total wsX1_plotCount := goodIn_r _ [30, 31, 32, 33, 34, 35, 16, 36, 109, 110, 111, 112, 113, 114, 115, 116] (by decide +kernel) (by decide +kernel)
set_option maxRecDepth 20000 in
theorem gX4_total_X1_plotCount : GoodIn wsX4_total (wsV RX4 52 RX1 yX1_plotCount wsX1_plotCount) := goodIn_app (goodIn_of _ (by decide +kernel)) ggX4_total_X1_plotCount
set_option maxRecDepth 20000 in
theorem ggX4_total_X4_part : GoodIn wsX4_total wsX4_part := goodIn_r _ [94, 95, 96, 4, 97, 98, 99, 100, 101, 102, 103] (by decide +kernel) (by decide +kernel)
set_option maxRecDepth 20000 in
theorem gX4_total_X4_part : GoodIn wsX4_total (va_wsS RX4 153 yX4_part wsX4_part) := goodIn_app (goodIn_of _ (by decide +kernel)) ggX4_total_X4_part
theorem dX4_total_0 : decode cX4_total 0 = .ok (.iload_n 1, 1) := by decide +kernel
theorem dX4_total_1 : decode cX4_total 1 = .ok (.iload_n 2, 1) := by decide +kernel
theorem dX4_total_2 : decode cX4_total 2 = .ok (.invokestatic 83, 3) := by decide +kernel
theorem dX4_total_5 : decode cX4_total 5 = .ok (.ifCond .eq 12, 3) := by decide +kernel
theorem dX4_total_8 : decode cX4_total 8 = .ok (.iload_n 3, 1) := by decide +kernel
theorem dX4_total_9 : decode cX4_total 9 = .ok (.ifCond .lt 8, 3) := by decide +kernel
theorem dX4_total_12 : decode cX4_total 12 = .ok (.iload_n 3, 1) := by decide +kernel
theorem dX4_total_13 : decode cX4_total 13 = .ok (.iconst 2, 1) := by decide +kernel
theorem dX4_total_14 : decode cX4_total 14 = .ok (.if_icmp .le 6, 3) := by decide +kernel
theorem dX4_total_17 : decode cX4_total 17 = .ok (.bipush (-2), 2) := by decide +kernel
theorem dX4_total_19 : decode cX4_total 19 = .ok (.ireturn, 1) := by decide +kernel
theorem dX4_total_20 : decode cX4_total 20 = .ok (.iconst 0, 1) := by decide +kernel
theorem dX4_total_21 : decode cX4_total 21 = .ok (.istore 4, 2) := by decide +kernel
theorem dX4_total_23 : decode cX4_total 23 = .ok (.iconst 0, 1) := by decide +kernel
theorem dX4_total_24 : decode cX4_total 24 = .ok (.istore 5, 2) := by decide +kernel
theorem dX4_total_26 : decode cX4_total 26 = .ok (.iload_n 1, 1) := by decide +kernel
theorem dX4_total_27 : decode cX4_total 27 = .ok (.istore 6, 2) := by decide +kernel
theorem dX4_total_29 : decode cX4_total 29 = .ok (.iload 6, 2) := by decide +kernel
theorem dX4_total_31 : decode cX4_total 31 = .ok (.iload_n 2, 1) := by decide +kernel
theorem dX4_total_32 : decode cX4_total 32 = .ok (.if_icmp .gt 32, 3) := by decide +kernel
theorem dX4_total_35 : decode cX4_total 35 = .ok (.aload_n 0, 1) := by decide +kernel
theorem dX4_total_36 : decode cX4_total 36 = .ok (.iload 6, 2) := by decide +kernel
theorem dX4_total_38 : decode cX4_total 38 = .ok (.invokevirtual 147, 3) := by decide +kernel
theorem dX4_total_41 : decode cX4_total 41 = .ok (.ifCond .eq 17, 3) := by decide +kernel
theorem dX4_total_44 : decode cX4_total 44 = .ok (.iload 4, 2) := by decide +kernel
theorem dX4_total_46 : decode cX4_total 46 = .ok (.aload_n 0, 1) := by decide +kernel
theorem dX4_total_47 : decode cX4_total 47 = .ok (.iload 6, 2) := by decide +kernel
theorem dX4_total_49 : decode cX4_total 49 = .ok (.invokevirtual 150, 3) := by decide +kernel
theorem dX4_total_52 : decode cX4_total 52 = .ok (.iadd, 1) := by decide +kernel
theorem dX4_total_53 : decode cX4_total 53 = .ok (.istore 4, 2) := by decide +kernel
theorem dX4_total_55 : decode cX4_total 55 = .ok (.iinc 5 1, 3) := by decide +kernel
theorem dX4_total_58 : decode cX4_total 58 = .ok (.iinc 6 1, 3) := by decide +kernel
theorem dX4_total_61 : decode cX4_total 61 = .ok (.goto (-32), 3) := by decide +kernel
theorem dX4_total_64 : decode cX4_total 64 = .ok (.iload_n 3, 1) := by decide +kernel
theorem dX4_total_65 : decode cX4_total 65 = .ok (.iconst 2, 1) := by decide +kernel
theorem dX4_total_66 : decode cX4_total 66 = .ok (.if_icmp .ne 8, 3) := by decide +kernel
theorem dX4_total_69 : decode cX4_total 69 = .ok (.iload 5, 2) := by decide +kernel
theorem dX4_total_71 : decode cX4_total 71 = .ok (.goto 16, 3) := by decide +kernel
theorem dX4_total_74 : decode cX4_total 74 = .ok (.iload_n 3, 1) := by decide +kernel
theorem dX4_total_75 : decode cX4_total 75 = .ok (.iload 4, 2) := by decide +kernel
theorem dX4_total_77 : decode cX4_total 77 = .ok (.aload_n 0, 1) := by decide +kernel
theorem dX4_total_78 : decode cX4_total 78 = .ok (.getfield 12, 3) := by decide +kernel
theorem dX4_total_81 : decode cX4_total 81 = .ok (.invokevirtual 52, 3) := by decide +kernel
theorem dX4_total_84 : decode cX4_total 84 = .ok (.invokestatic 153, 3) := by decide +kernel
theorem dX4_total_87 : decode cX4_total 87 = .ok (.ireturn, 1) := by decide +kernel
set_option maxRecDepth 20000 in
theorem ggX4_spread_X4_isDay : GoodIn wsX4_spread wsX4_isDay := goodIn_r _ [6] (by decide +kernel) (by decide +kernel)
set_option maxRecDepth 20000 in
theorem gX4_spread_X4_isDay : GoodIn wsX4_spread (va_wsS RX4 94 yX4_isDay wsX4_isDay) := goodIn_app (goodIn_of _ (by decide +kernel)) ggX4_spread_X4_isDay
set_option maxRecDepth 20000 in
theorem ggX4_spread_X1_workingOn : GoodIn wsX4_spread wsX1_workingOn := goodIn_r _ [11, 12, 13, 14, 15, 16, 10, 17, 18, 19, 5, 20, 72, 73, 74, 75, 76, 77, 78, 79] (by decide +kernel) (by decide +kernel)
set_option maxRecDepth 20000 in
theorem gX4_spread_X1_workingOn : GoodIn wsX4_spread (wsV RX4 107 RX1 yX1_workingOn wsX1_workingOn) := goodIn_app (goodIn_of _ (by decide +kernel)) ggX4_spread_X1_workingOn
set_option maxRecDepth 20000 in
theorem ggX4_spread_X3_lookUp : GoodIn wsX4_spread wsX3_lookUp := goodIn_r _ [25, 26, 27, 28, 29, 30, 31, 32, 33, 34, 24, 35, 36, 37, 38, 39, 40, 41, 42, 43, 44, 45, 46, 47, 48, 49, 50, 51, 52, 53, 5, 54, 55, 56, 57, 58, 59, 60, 61, 62, 80, 81, 82, 83, 84, 85, 86, 87, 88, 89, 90, 72, 73, 74, 75, 76, 77, 78, 79] (by decide +kernel) (by decide +kernel)
set_option maxRecDepth 20000 in
theorem gX4_spread_X3_lookUp : GoodIn wsX4_spread (wsV RX4 113 RX3 yX3_lookUp wsX3_lookUp) := goodIn_app (goodIn_of _ (by decide +kernel)) ggX4_spread_X3_lookUp
set_option maxRecDepth 20000 in
theorem ggX4_spread_X0_farOfAll : GoodIn wsX4_spread wsX0_farOfAll := goodIn_r _ [66, 51, 87, 88, 89, 90] (by decide +kernel) (by decide +kernel)
set_option maxRecDepth 20000 in
theorem gX4_spread_X0_farOfAll : GoodIn wsX4_spread (wsV RX4 156 RX0 yX0_farOfAll wsX0_farOfAll) := goodIn_app (goodIn_of _ (by decide +kernel)) ggX4_spread_X0_farOfAll
theorem dX4_spread_0 : decode cX4_spread 0 = .ok (.iload_n 1, 1) := by decide +kernel
theorem dX4_spread_1 : decode cX4_spread 1 = .ok (.invokestatic 94, 3) := by decide +kernel
theorem dX4_spread_4 : decode cX4_spread 4 = .ok (.ifCond .ne 6, 3) := by decide +kernel
theorem dX4_spread_7 : decode cX4_spread 7 = .ok (.bipush (-2), 2) := by decide +kernel
theorem dX4_spread_9 : decode cX4_spread 9 = .ok (.ireturn, 1) := by decide +kernel
theorem dX4_spread_10 : decode cX4_spread 10 = .ok (.aload_n 0, 1) := by decide +kernel
theorem dX4_spread_11 : decode cX4_spread 11 = .ok (.getfield 12, 3) := by decide +kernel
theorem dX4_spread_14 : decode cX4_spread 14 = .ok (.iload_n 1, 1) := by decide +kernel
theorem dX4_spread_15 : decode cX4_spread 15 = .ok (.invokevirtual 107, 3) := by decide +kernel
theorem dX4_spread_18 : decode cX4_spread 18 = .ok (.istore_n 2, 1) := by decide +kernel
theorem dX4_spread_19 : decode cX4_spread 19 = .ok (.iload_n 2, 1) := by decide +kernel
theorem dX4_spread_20 : decode cX4_spread 20 = .ok (.ifCond .ne 6, 3) := by decide +kernel
theorem dX4_spread_23 : decode cX4_spread 23 = .ok (.bipush (-6), 2) := by decide +kernel
theorem dX4_spread_25 : decode cX4_spread 25 = .ok (.ireturn, 1) := by decide +kernel
theorem dX4_spread_26 : decode cX4_spread 26 = .ok (.aload_n 0, 1) := by decide +kernel
theorem dX4_spread_27 : decode cX4_spread 27 = .ok (.getfield 27, 3) := by decide +kernel
theorem dX4_spread_30 : decode cX4_spread 30 = .ok (.aload_n 0, 1) := by decide +kernel
theorem dX4_spread_31 : decode cX4_spread 31 = .ok (.getfield 12, 3) := by decide +kernel
theorem dX4_spread_34 : decode cX4_spread 34 = .ok (.iload_n 2, 1) := by decide +kernel
theorem dX4_spread_35 : decode cX4_spread 35 = .ok (.invokevirtual 113, 3) := by decide +kernel
theorem dX4_spread_38 : decode cX4_spread 38 = .ok (.invokevirtual 156, 3) := by decide +kernel
theorem dX4_spread_41 : decode cX4_spread 41 = .ok (.ireturn, 1) := by decide +kernel
set_option maxRecDepth 20000 in
theorem ggX4_next_X4_isDay : GoodIn wsX4_next wsX4_isDay := goodIn_r _ [10] (by decide +kernel) (by decide +kernel)
set_option maxRecDepth 20000 in
theorem gX4_next_X4_isDay : GoodIn wsX4_next (va_wsS RX4 94 yX4_isDay wsX4_isDay) := goodIn_app (goodIn_of _ (by decide +kernel)) ggX4_next_X4_isDay
set_option maxRecDepth 20000 in
theorem ggX4_next_X1_workingOn : GoodIn wsX4_next wsX1_workingOn := goodIn_r _ [15, 16, 17, 18, 19, 20, 14, 21, 22, 23, 9, 24, 101, 102, 103, 104, 105, 106, 107, 108] (by decide +kernel) (by decide +kernel)
set_option maxRecDepth 20000 in
theorem gX4_next_X1_workingOn : GoodIn wsX4_next (wsV RX4 107 RX1 yX1_workingOn wsX1_workingOn) := goodIn_app (goodIn_of _ (by decide +kernel)) ggX4_next_X1_workingOn
set_option maxRecDepth 20000 in
theorem ggX4_next_X2_run : GoodIn wsX4_next wsX2_run := goodIn_r _ [29, 30, 31, 32, 33, 34, 35, 36, 37, 38, 39, 40, 41, 42, 43, 44, 45, 46, 47, 48, 9, 49, 50, 51, 52, 53, 54, 55, 56, 57, 58, 59, 60, 28, 61, 62, 63, 64, 65, 66, 67, 68, 69, 70, 71, 72, 73, 74, 14, 75, 16, 76, 77, 78, 79, 80, 81, 82, 83, 84, 85, 86, 87, 93, 94, 95, 96, 97, 98, 99, 100, 101, 102, 103, 104, 105, 106, 107, 108, 109, 110, 111, 112] (by decide +kernel) (by decide +kernel)
set_option maxRecDepth 20000 in
theorem gX4_next_X2_run : GoodIn wsX4_next (wsV RX4 159 RX2 yX2_run wsX2_run) := goodIn_app (goodIn_of _ (by decide +kernel)) ggX4_next_X2_run
theorem dX4_next_0 : decode cX4_next 0 = .ok (.iload_n 1, 1) := by decide +kernel
theorem dX4_next_1 : decode cX4_next 1 = .ok (.invokestatic 94, 3) := by decide +kernel
theorem dX4_next_4 : decode cX4_next 4 = .ok (.ifCond .eq 12, 3) := by decide +kernel
theorem dX4_next_7 : decode cX4_next 7 = .ok (.iload_n 2, 1) := by decide +kernel
theorem dX4_next_8 : decode cX4_next 8 = .ok (.ifCond .lt 8, 3) := by decide +kernel
theorem dX4_next_11 : decode cX4_next 11 = .ok (.iload_n 2, 1) := by decide +kernel
theorem dX4_next_12 : decode cX4_next 12 = .ok (.iconst 2, 1) := by decide +kernel
theorem dX4_next_13 : decode cX4_next 13 = .ok (.if_icmp .le 6, 3) := by decide +kernel
theorem dX4_next_16 : decode cX4_next 16 = .ok (.bipush (-2), 2) := by decide +kernel
theorem dX4_next_18 : decode cX4_next 18 = .ok (.ireturn, 1) := by decide +kernel
theorem dX4_next_19 : decode cX4_next 19 = .ok (.aload_n 0, 1) := by decide +kernel
theorem dX4_next_20 : decode cX4_next 20 = .ok (.getfield 34, 3) := by decide +kernel
theorem dX4_next_23 : decode cX4_next 23 = .ok (.aload_n 0, 1) := by decide +kernel
theorem dX4_next_24 : decode cX4_next 24 = .ok (.getfield 12, 3) := by decide +kernel
theorem dX4_next_27 : decode cX4_next 27 = .ok (.aload_n 0, 1) := by decide +kernel
theorem dX4_next_28 : decode cX4_next 28 = .ok (.getfield 12, 3) := by decide +kernel
theorem dX4_next_31 : decode cX4_next 31 = .ok (.iload_n 1, 1) := by decide +kernel
theorem dX4_next_32 : decode cX4_next 32 = .ok (.invokevirtual 107, 3) := by decide +kernel
theorem dX4_next_35 : decode cX4_next 35 = .ok (.invokevirtual 159, 3) := by decide +kernel
theorem dX4_next_38 : decode cX4_next 38 = .ok (.aload_n 0, 1) := by decide +kernel
theorem dX4_next_39 : decode cX4_next 39 = .ok (.getfield 34, 3) := by decide +kernel
theorem dX4_next_42 : decode cX4_next 42 = .ok (.getfield 163, 3) := by decide +kernel
theorem dX4_next_45 : decode cX4_next 45 = .ok (.ldc 166, 2) := by decide +kernel
theorem dX4_next_47 : decode cX4_next 47 = .ok (.if_icmp .ne 6, 3) := by decide +kernel
theorem dX4_next_50 : decode cX4_next 50 = .ok (.bipush (-6), 2) := by decide +kernel
theorem dX4_next_52 : decode cX4_next 52 = .ok (.ireturn, 1) := by decide +kernel
theorem dX4_next_53 : decode cX4_next 53 = .ok (.iload_n 2, 1) := by decide +kernel
theorem dX4_next_54 : decode cX4_next 54 = .ok (.lookupswitch 42 #[(0, 26), (1, 34)], 26) := by decide +kernel
theorem dX4_next_80 : decode cX4_next 80 = .ok (.aload_n 0, 1) := by decide +kernel
theorem dX4_next_81 : decode cX4_next 81 = .ok (.getfield 34, 3) := by decide +kernel
theorem dX4_next_84 : decode cX4_next 84 = .ok (.getfield 167, 3) := by decide +kernel
theorem dX4_next_87 : decode cX4_next 87 = .ok (.ireturn, 1) := by decide +kernel
theorem dX4_next_88 : decode cX4_next 88 = .ok (.aload_n 0, 1) := by decide +kernel
theorem dX4_next_89 : decode cX4_next 89 = .ok (.getfield 34, 3) := by decide +kernel
theorem dX4_next_92 : decode cX4_next 92 = .ok (.getfield 170, 3) := by decide +kernel
theorem dX4_next_95 : decode cX4_next 95 = .ok (.ireturn, 1) := by decide +kernel
theorem dX4_next_96 : decode cX4_next 96 = .ok (.aload_n 0, 1) := by decide +kernel
theorem dX4_next_97 : decode cX4_next 97 = .ok (.getfield 34, 3) := by decide +kernel
theorem dX4_next_100 : decode cX4_next 100 = .ok (.getfield 163, 3) := by decide +kernel
theorem dX4_next_103 : decode cX4_next 103 = .ok (.ireturn, 1) := by decide +kernel
set_option maxRecDepth 20000 in
theorem ggX4_shared_X1_knows : GoodIn wsX4_shared wsX1_knows := goodIn_r _ [7, 8, 80, 81, 82, 83, 84, 85, 86, 87] (by decide +kernel) (by decide +kernel)
set_option maxRecDepth 20000 in
theorem gX4_shared_X1_knows : GoodIn wsX4_shared (wsV RX4 72 RX1 yX1_knows wsX1_knows) := goodIn_app (goodIn_of _ (by decide +kernel)) ggX4_shared_X1_knows
set_option maxRecDepth 20000 in
theorem ggX4_shared_X4_isDay : GoodIn wsX4_shared wsX4_isDay := goodIn_r _ [12] (by decide +kernel) (by decide +kernel)
set_option maxRecDepth 20000 in
theorem gX4_shared_X4_isDay : GoodIn wsX4_shared (va_wsS RX4 94 yX4_isDay wsX4_isDay) := goodIn_app (goodIn_of _ (by decide +kernel)) ggX4_shared_X4_isDay
set_option maxRecDepth 20000 in
theorem ggX4_shared_X1_workingOn : GoodIn wsX4_shared wsX1_workingOn := goodIn_r _ [16, 8, 17, 18, 19, 20, 6, 21, 22, 23, 11, 24, 80, 81, 82, 83, 84, 85, 86, 87] (by decide +kernel) (by decide +kernel)
set_option maxRecDepth 20000 in
theorem gX4_shared_X1_workingOn : GoodIn wsX4_shared (wsV RX4 107 RX1 yX1_workingOn wsX1_workingOn) := goodIn_app (goodIn_of _ (by decide +kernel)) ggX4_shared_X1_workingOn
set_option maxRecDepth 20000 in
theorem ggX4_shared_X4_without : GoodIn wsX4_shared wsX4_without := goodIn_r _ [27] (by decide +kernel) (by decide +kernel)
set_option maxRecDepth 20000 in
theorem gX4_shared_X4_without : GoodIn wsX4_shared (va_wsS RX4 173 yX4_without wsX4_without) := goodIn_app (goodIn_of _ (by decide +kernel)) ggX4_shared_X4_without
set_option maxRecDepth 20000 in
theorem ggX4_shared_X4_with : GoodIn wsX4_shared wsX4_with := goodIn_r _ [24] (by decide +kernel) (by decide +kernel)
set_option maxRecDepth 20000 in
theorem gX4_shared_X4_with : GoodIn wsX4_shared (va_wsS RX4 176 yX4_with wsX4_with) := goodIn_app (goodIn_of _ (by decide +kernel)) ggX4_shared_X4_with
set_option maxRecDepth 20000 in
theorem ggX4_shared_X3_lookUp : GoodIn wsX4_shared wsX3_lookUp := goodIn_r _ [33, 34, 35, 36, 37, 38, 39, 40, 41, 42, 32, 43, 44, 45, 46, 47, 48, 49, 50, 51, 52, 53, 54, 55, 56, 57, 58, 59, 60, 61, 11, 62, 63, 64, 65, 66, 67, 68, 69, 70, 88, 89, 90, 91, 92, 93, 94, 95, 96, 97, 98, 80, 81, 82, 83, 84, 85, 86, 87] (by decide +kernel) (by decide +kernel)
set_option maxRecDepth 20000 in
theorem gX4_shared_X3_lookUp : GoodIn wsX4_shared (wsV RX4 113 RX3 yX3_lookUp wsX3_lookUp) := goodIn_app (goodIn_of _ (by decide +kernel)) ggX4_shared_X3_lookUp
set_option maxRecDepth 20000 in
theorem ggX4_shared_X0_inBoth : GoodIn wsX4_shared wsX0_inBoth := goodIn_r _ [74, 55, 95, 96, 97, 98] (by decide +kernel) (by decide +kernel)
set_option maxRecDepth 20000 in
theorem gX4_shared_X0_inBoth : GoodIn wsX4_shared (wsV RX4 179 RX0 yX0_inBoth wsX0_inBoth) := goodIn_app (goodIn_of _ (by decide +kernel)) ggX4_shared_X0_inBoth
theorem dX4_shared_0 : decode cX4_shared 0 = .ok (.aload_n 0, 1) := by decide +kernel
theorem dX4_shared_1 : decode cX4_shared 1 = .ok (.getfield 12, 3) := by decide +kernel
theorem dX4_shared_4 : decode cX4_shared 4 = .ok (.iload_n 2, 1) := by decide +kernel
theorem dX4_shared_5 : decode cX4_shared 5 = .ok (.invokevirtual 72, 3) := by decide +kernel
theorem dX4_shared_8 : decode cX4_shared 8 = .ok (.ifCond .eq 14, 3) := by decide +kernel
theorem dX4_shared_11 : decode cX4_shared 11 = .ok (.aload_n 0, 1) := by decide +kernel
theorem dX4_shared_12 : decode cX4_shared 12 = .ok (.getfield 12, 3) := by decide +kernel
theorem dX4_shared_15 : decode cX4_shared 15 = .ok (.iload_n 3, 1) := by decide +kernel
theorem dX4_shared_16 : decode cX4_shared 16 = .ok (.invokevirtual 72, 3) := by decide +kernel
theorem dX4_shared_19 : decode cX4_shared 19 = .ok (.ifCond .ne 5, 3) := by decide +kernel
theorem dX4_shared_22 : decode cX4_shared 22 = .ok (.iconst (-1), 1) := by decide +kernel
theorem dX4_shared_23 : decode cX4_shared 23 = .ok (.ireturn, 1) := by decide +kernel
theorem dX4_shared_24 : decode cX4_shared 24 = .ok (.iload_n 1, 1) := by decide +kernel
theorem dX4_shared_25 : decode cX4_shared 25 = .ok (.invokestatic 94, 3) := by decide +kernel
theorem dX4_shared_28 : decode cX4_shared 28 = .ok (.ifCond .eq 8, 3) := by decide +kernel
theorem dX4_shared_31 : decode cX4_shared 31 = .ok (.iload_n 2, 1) := by decide +kernel
theorem dX4_shared_32 : decode cX4_shared 32 = .ok (.iload_n 3, 1) := by decide +kernel
theorem dX4_shared_33 : decode cX4_shared 33 = .ok (.if_icmp .ne 6, 3) := by decide +kernel
theorem dX4_shared_36 : decode cX4_shared 36 = .ok (.bipush (-2), 2) := by decide +kernel
theorem dX4_shared_38 : decode cX4_shared 38 = .ok (.ireturn, 1) := by decide +kernel
theorem dX4_shared_39 : decode cX4_shared 39 = .ok (.aload_n 0, 1) := by decide +kernel
theorem dX4_shared_40 : decode cX4_shared 40 = .ok (.getfield 12, 3) := by decide +kernel
theorem dX4_shared_43 : decode cX4_shared 43 = .ok (.iload_n 1, 1) := by decide +kernel
theorem dX4_shared_44 : decode cX4_shared 44 = .ok (.invokevirtual 107, 3) := by decide +kernel
theorem dX4_shared_47 : decode cX4_shared 47 = .ok (.istore 4, 2) := by decide +kernel
theorem dX4_shared_49 : decode cX4_shared 49 = .ok (.iload 4, 2) := by decide +kernel
theorem dX4_shared_51 : decode cX4_shared 51 = .ok (.iload_n 2, 1) := by decide +kernel
theorem dX4_shared_52 : decode cX4_shared 52 = .ok (.invokestatic 173, 3) := by decide +kernel
theorem dX4_shared_55 : decode cX4_shared 55 = .ok (.ifCond .ne 6, 3) := by decide +kernel
theorem dX4_shared_58 : decode cX4_shared 58 = .ok (.bipush (-3), 2) := by decide +kernel
theorem dX4_shared_60 : decode cX4_shared 60 = .ok (.ireturn, 1) := by decide +kernel
theorem dX4_shared_61 : decode cX4_shared 61 = .ok (.aload_n 0, 1) := by decide +kernel
theorem dX4_shared_62 : decode cX4_shared 62 = .ok (.getfield 27, 3) := by decide +kernel
theorem dX4_shared_65 : decode cX4_shared 65 = .ok (.aload_n 0, 1) := by decide +kernel
theorem dX4_shared_66 : decode cX4_shared 66 = .ok (.getfield 12, 3) := by decide +kernel
theorem dX4_shared_69 : decode cX4_shared 69 = .ok (.iload 4, 2) := by decide +kernel
theorem dX4_shared_71 : decode cX4_shared 71 = .ok (.iload_n 2, 1) := by decide +kernel
theorem dX4_shared_72 : decode cX4_shared 72 = .ok (.invokestatic 176, 3) := by decide +kernel
theorem dX4_shared_75 : decode cX4_shared 75 = .ok (.invokevirtual 113, 3) := by decide +kernel
theorem dX4_shared_78 : decode cX4_shared 78 = .ok (.astore 5, 2) := by decide +kernel
theorem dX4_shared_80 : decode cX4_shared 80 = .ok (.aload_n 0, 1) := by decide +kernel
theorem dX4_shared_81 : decode cX4_shared 81 = .ok (.getfield 27, 3) := by decide +kernel
theorem dX4_shared_84 : decode cX4_shared 84 = .ok (.aload_n 0, 1) := by decide +kernel
theorem dX4_shared_85 : decode cX4_shared 85 = .ok (.getfield 12, 3) := by decide +kernel
theorem dX4_shared_88 : decode cX4_shared 88 = .ok (.iload 4, 2) := by decide +kernel
theorem dX4_shared_90 : decode cX4_shared 90 = .ok (.iload_n 2, 1) := by decide +kernel
theorem dX4_shared_91 : decode cX4_shared 91 = .ok (.invokestatic 173, 3) := by decide +kernel
theorem dX4_shared_94 : decode cX4_shared 94 = .ok (.invokevirtual 113, 3) := by decide +kernel
theorem dX4_shared_97 : decode cX4_shared 97 = .ok (.astore 6, 2) := by decide +kernel
theorem dX4_shared_99 : decode cX4_shared 99 = .ok (.aload 5, 2) := by decide +kernel
theorem dX4_shared_101 : decode cX4_shared 101 = .ok (.iload_n 2, 1) := by decide +kernel
theorem dX4_shared_102 : decode cX4_shared 102 = .ok (.aload 6, 2) := by decide +kernel
theorem dX4_shared_104 : decode cX4_shared 104 = .ok (.iload_n 3, 1) := by decide +kernel
theorem dX4_shared_105 : decode cX4_shared 105 = .ok (.invokevirtual 179, 3) := by decide +kernel
theorem dX4_shared_108 : decode cX4_shared 108 = .ok (.ireturn, 1) := by decide +kernel
set_option maxRecDepth 20000 in
theorem ggX4_estimate_X1_knows : GoodIn wsX4_estimate wsX1_knows := goodIn_r _ [8, 9, 102, 103, 104, 105, 106, 107, 108, 109] (by decide +kernel) (by decide +kernel)
set_option maxRecDepth 20000 in
theorem gX4_estimate_X1_knows : GoodIn wsX4_estimate (wsV RX4 72 RX1 yX1_knows wsX1_knows) := goodIn_app (goodIn_of _ (by decide +kernel)) ggX4_estimate_X1_knows
set_option maxRecDepth 20000 in
theorem ggX4_estimate_X4_isDay : GoodIn wsX4_estimate wsX4_isDay := goodIn_r _ [13] (by decide +kernel) (by decide +kernel)
set_option maxRecDepth 20000 in
theorem gX4_estimate_X4_isDay : GoodIn wsX4_estimate (va_wsS RX4 94 yX4_isDay wsX4_isDay) := goodIn_app (goodIn_of _ (by decide +kernel)) ggX4_estimate_X4_isDay
set_option maxRecDepth 20000 in
theorem ggX4_estimate_X4_isPart : GoodIn wsX4_estimate wsX4_isPart := goodIn_r _ [16] (by decide +kernel) (by decide +kernel)
set_option maxRecDepth 20000 in
theorem gX4_estimate_X4_isPart : GoodIn wsX4_estimate (va_wsS RX4 144 yX4_isPart wsX4_isPart) := goodIn_app (goodIn_of _ (by decide +kernel)) ggX4_estimate_X4_isPart
set_option maxRecDepth 20000 in
theorem ggX4_estimate_X1_workingOn : GoodIn wsX4_estimate wsX1_workingOn := goodIn_r _ [20, 9, 21, 22, 23, 24, 7, 25, 26, 27, 12, 28, 102, 103, 104, 105, 106, 107, 108, 109] (by decide +kernel) (by decide +kernel)
set_option maxRecDepth 20000 in
theorem gX4_estimate_X1_workingOn : GoodIn wsX4_estimate (wsV RX4 107 RX1 yX1_workingOn wsX1_workingOn) := goodIn_app (goodIn_of _ (by decide +kernel)) ggX4_estimate_X1_workingOn
set_option maxRecDepth 20000 in
theorem ggX4_estimate_X4_without : GoodIn wsX4_estimate wsX4_without := goodIn_r _ [31] (by decide +kernel) (by decide +kernel)
set_option maxRecDepth 20000 in
theorem gX4_estimate_X4_without : GoodIn wsX4_estimate (va_wsS RX4 173 yX4_without wsX4_without) := goodIn_app (goodIn_of _ (by decide +kernel)) ggX4_estimate_X4_without
set_option maxRecDepth 20000 in
theorem ggX4_estimate_X4_with : GoodIn wsX4_estimate wsX4_with := goodIn_r _ [28] (by decide +kernel) (by decide +kernel)
set_option maxRecDepth 20000 in
theorem gX4_estimate_X4_with : GoodIn wsX4_estimate (va_wsS RX4 176 yX4_with wsX4_with) := goodIn_app (goodIn_of _ (by decide +kernel)) ggX4_estimate_X4_with
set_option maxRecDepth 20000 in
theorem ggX4_estimate_X3_lookUp : GoodIn wsX4_estimate wsX3_lookUp := goodIn_r _ [37, 38, 39, 40, 41, 42, 43, 44, 45, 46, 36, 47, 48, 49, 50, 51, 52, 53, 54, 55, 56, 57, 58, 59, 60, 61, 62, 63, 64, 65, 12, 66, 67, 68, 69, 70, 71, 72, 73, 74, 110, 111, 112, 113, 114, 115, 116, 98, 99, 100, 101, 102, 103, 104, 105, 106, 107, 108, 109] (by decide +kernel) (by decide +kernel)
set_option maxRecDepth 20000 in
theorem gX4_estimate_X3_lookUp : GoodIn wsX4_estimate (wsV RX4 113 RX3 yX3_lookUp wsX3_lookUp) := goodIn_app (goodIn_of _ (by decide +kernel)) ggX4_estimate_X3_lookUp
set_option maxRecDepth 20000 in
theorem ggX4_estimate_X4_rainOfOthers : GoodIn wsX4_estimate wsX4_rainOfOthers := goodIn_r _ [78, 79, 1, 80, 23, 24, 7, 25, 26, 98, 99, 100, 101, 93, 94, 95, 96, 97, 102, 103, 104, 105, 106, 107, 108, 109] (by decide +kernel) (by decide +kernel)
set_option maxRecDepth 20000 in
theorem gX4_estimate_X4_rainOfOthers : GoodIn wsX4_estimate (wsV RX4 183 RX4 yX4_rainOfOthers wsX4_rainOfOthers) := goodIn_app (goodIn_of _ (by decide +kernel)) ggX4_estimate_X4_rainOfOthers
set_option maxRecDepth 20000 in
theorem ggX4_estimate_X4_part : GoodIn wsX4_estimate wsX4_part := goodIn_r _ [83, 84, 85, 12, 86, 87, 88, 89, 90, 91, 92] (by decide +kernel) (by decide +kernel)
set_option maxRecDepth 20000 in
theorem gX4_estimate_X4_part : GoodIn wsX4_estimate (va_wsS RX4 153 yX4_part wsX4_part) := goodIn_app (goodIn_of _ (by decide +kernel)) ggX4_estimate_X4_part
theorem dX4_estimate_0 : decode cX4_estimate 0 = .ok (.aload_n 0, 1) := by decide +kernel
theorem dX4_estimate_1 : decode cX4_estimate 1 = .ok (.getfield 12, 3) := by decide +kernel
theorem dX4_estimate_4 : decode cX4_estimate 4 = .ok (.iload_n 2, 1) := by decide +kernel
theorem dX4_estimate_5 : decode cX4_estimate 5 = .ok (.invokevirtual 72, 3) := by decide +kernel
theorem dX4_estimate_8 : decode cX4_estimate 8 = .ok (.ifCond .ne 5, 3) := by decide +kernel
theorem dX4_estimate_11 : decode cX4_estimate 11 = .ok (.iconst (-1), 1) := by decide +kernel
theorem dX4_estimate_12 : decode cX4_estimate 12 = .ok (.ireturn, 1) := by decide +kernel
theorem dX4_estimate_13 : decode cX4_estimate 13 = .ok (.iload_n 1, 1) := by decide +kernel
theorem dX4_estimate_14 : decode cX4_estimate 14 = .ok (.invokestatic 94, 3) := by decide +kernel
theorem dX4_estimate_17 : decode cX4_estimate 17 = .ok (.ifCond .eq 10, 3) := by decide +kernel
theorem dX4_estimate_20 : decode cX4_estimate 20 = .ok (.iload_n 3, 1) := by decide +kernel
theorem dX4_estimate_21 : decode cX4_estimate 21 = .ok (.invokestatic 144, 3) := by decide +kernel
theorem dX4_estimate_24 : decode cX4_estimate 24 = .ok (.ifCond .ne 6, 3) := by decide +kernel
theorem dX4_estimate_27 : decode cX4_estimate 27 = .ok (.bipush (-2), 2) := by decide +kernel
theorem dX4_estimate_29 : decode cX4_estimate 29 = .ok (.ireturn, 1) := by decide +kernel
theorem dX4_estimate_30 : decode cX4_estimate 30 = .ok (.aload_n 0, 1) := by decide +kernel
theorem dX4_estimate_31 : decode cX4_estimate 31 = .ok (.getfield 12, 3) := by decide +kernel
theorem dX4_estimate_34 : decode cX4_estimate 34 = .ok (.iload_n 1, 1) := by decide +kernel
theorem dX4_estimate_35 : decode cX4_estimate 35 = .ok (.invokevirtual 107, 3) := by decide +kernel
theorem dX4_estimate_38 : decode cX4_estimate 38 = .ok (.istore 4, 2) := by decide +kernel
theorem dX4_estimate_40 : decode cX4_estimate 40 = .ok (.iload 4, 2) := by decide +kernel
theorem dX4_estimate_42 : decode cX4_estimate 42 = .ok (.iload_n 2, 1) := by decide +kernel
theorem dX4_estimate_43 : decode cX4_estimate 43 = .ok (.invokestatic 173, 3) := by decide +kernel
theorem dX4_estimate_46 : decode cX4_estimate 46 = .ok (.ifCond .ne 6, 3) := by decide +kernel
theorem dX4_estimate_49 : decode cX4_estimate 49 = .ok (.bipush (-3), 2) := by decide +kernel
theorem dX4_estimate_51 : decode cX4_estimate 51 = .ok (.ireturn, 1) := by decide +kernel
theorem dX4_estimate_52 : decode cX4_estimate 52 = .ok (.aload_n 0, 1) := by decide +kernel
theorem dX4_estimate_53 : decode cX4_estimate 53 = .ok (.getfield 27, 3) := by decide +kernel
theorem dX4_estimate_56 : decode cX4_estimate 56 = .ok (.aload_n 0, 1) := by decide +kernel
theorem dX4_estimate_57 : decode cX4_estimate 57 = .ok (.getfield 12, 3) := by decide +kernel
theorem dX4_estimate_60 : decode cX4_estimate 60 = .ok (.iload 4, 2) := by decide +kernel
theorem dX4_estimate_62 : decode cX4_estimate 62 = .ok (.iload_n 2, 1) := by decide +kernel
theorem dX4_estimate_63 : decode cX4_estimate 63 = .ok (.invokestatic 176, 3) := by decide +kernel
theorem dX4_estimate_66 : decode cX4_estimate 66 = .ok (.invokevirtual 113, 3) := by decide +kernel
theorem dX4_estimate_69 : decode cX4_estimate 69 = .ok (.astore 5, 2) := by decide +kernel
theorem dX4_estimate_71 : decode cX4_estimate 71 = .ok (.aload_n 0, 1) := by decide +kernel
theorem dX4_estimate_72 : decode cX4_estimate 72 = .ok (.getfield 27, 3) := by decide +kernel
theorem dX4_estimate_75 : decode cX4_estimate 75 = .ok (.aload_n 0, 1) := by decide +kernel
theorem dX4_estimate_76 : decode cX4_estimate 76 = .ok (.getfield 12, 3) := by decide +kernel
theorem dX4_estimate_79 : decode cX4_estimate 79 = .ok (.iload 4, 2) := by decide +kernel
theorem dX4_estimate_81 : decode cX4_estimate 81 = .ok (.iload_n 2, 1) := by decide +kernel
theorem dX4_estimate_82 : decode cX4_estimate 82 = .ok (.invokestatic 173, 3) := by decide +kernel
theorem dX4_estimate_85 : decode cX4_estimate 85 = .ok (.invokevirtual 113, 3) := by decide +kernel
theorem dX4_estimate_88 : decode cX4_estimate 88 = .ok (.astore 6, 2) := by decide +kernel
theorem dX4_estimate_90 : decode cX4_estimate 90 = .ok (.aload 5, 2) := by decide +kernel
theorem dX4_estimate_92 : decode cX4_estimate 92 = .ok (.getfield 126, 3) := by decide +kernel
theorem dX4_estimate_95 : decode cX4_estimate 95 = .ok (.iload_n 2, 1) := by decide +kernel
theorem dX4_estimate_96 : decode cX4_estimate 96 = .ok (.iaload, 1) := by decide +kernel
theorem dX4_estimate_97 : decode cX4_estimate 97 = .ok (.ifCond .ne 6, 3) := by decide +kernel
theorem dX4_estimate_100 : decode cX4_estimate 100 = .ok (.bipush (-6), 2) := by decide +kernel
theorem dX4_estimate_102 : decode cX4_estimate 102 = .ok (.ireturn, 1) := by decide +kernel
theorem dX4_estimate_103 : decode cX4_estimate 103 = .ok (.iload_n 3, 1) := by decide +kernel
theorem dX4_estimate_104 : decode cX4_estimate 104 = .ok (.aload_n 0, 1) := by decide +kernel
theorem dX4_estimate_105 : decode cX4_estimate 105 = .ok (.iload_n 1, 1) := by decide +kernel
theorem dX4_estimate_106 : decode cX4_estimate 106 = .ok (.iload_n 2, 1) := by decide +kernel
theorem dX4_estimate_107 : decode cX4_estimate 107 = .ok (.aload 5, 2) := by decide +kernel
theorem dX4_estimate_109 : decode cX4_estimate 109 = .ok (.aload 6, 2) := by decide +kernel
theorem dX4_estimate_111 : decode cX4_estimate 111 = .ok (.invokevirtual 183, 3) := by decide +kernel
theorem dX4_estimate_114 : decode cX4_estimate 114 = .ok (.aload 5, 2) := by decide +kernel
theorem dX4_estimate_116 : decode cX4_estimate 116 = .ok (.getfield 126, 3) := by decide +kernel
theorem dX4_estimate_119 : decode cX4_estimate 119 = .ok (.iload_n 2, 1) := by decide +kernel
theorem dX4_estimate_120 : decode cX4_estimate 120 = .ok (.iaload, 1) := by decide +kernel
theorem dX4_estimate_121 : decode cX4_estimate 121 = .ok (.invokestatic 153, 3) := by decide +kernel
theorem dX4_estimate_124 : decode cX4_estimate 124 = .ok (.ireturn, 1) := by decide +kernel
set_option maxRecDepth 20000 in
theorem ggX4_doubt_X4_isDay : GoodIn wsX4_doubt wsX4_isDay := goodIn_r _ [6] (by decide +kernel) (by decide +kernel)
set_option maxRecDepth 20000 in
theorem gX4_doubt_X4_isDay : GoodIn wsX4_doubt (va_wsS RX4 94 yX4_isDay wsX4_isDay) := goodIn_app (goodIn_of _ (by decide +kernel)) ggX4_doubt_X4_isDay
set_option maxRecDepth 20000 in
theorem ggX4_doubt_X1_workingOn : GoodIn wsX4_doubt wsX1_workingOn := goodIn_r _ [11, 12, 13, 14, 15, 16, 10, 17, 18, 19, 5, 20, 89, 90, 91, 92, 93, 94, 95, 96] (by decide +kernel) (by decide +kernel)
set_option maxRecDepth 20000 in
theorem gX4_doubt_X1_workingOn : GoodIn wsX4_doubt (wsV RX4 107 RX1 yX1_workingOn wsX1_workingOn) := goodIn_app (goodIn_of _ (by decide +kernel)) ggX4_doubt_X1_workingOn
set_option maxRecDepth 20000 in
theorem ggX4_doubt_X4_isIn : GoodIn wsX4_doubt wsX4_isIn := goodIn_r _ [23] (by decide +kernel) (by decide +kernel)
set_option maxRecDepth 20000 in
theorem gX4_doubt_X4_isIn : GoodIn wsX4_doubt (va_wsS RX4 187 yX4_isIn wsX4_isIn) := goodIn_app (goodIn_of _ (by decide +kernel)) ggX4_doubt_X4_isIn
set_option maxRecDepth 20000 in
theorem ggX4_doubt_X4_without : GoodIn wsX4_doubt wsX4_without := goodIn_r _ [26] (by decide +kernel) (by decide +kernel)
set_option maxRecDepth 20000 in
theorem gX4_doubt_X4_without : GoodIn wsX4_doubt (va_wsS RX4 173 yX4_without wsX4_without) := goodIn_app (goodIn_of _ (by decide +kernel)) ggX4_doubt_X4_without
set_option maxRecDepth 20000 in
theorem ggX4_doubt_X4_isDoubted : GoodIn wsX4_doubt wsX4_isDoubted := goodIn_r _ [30, 1, 31, 32, 33, 34, 35, 36, 7, 8, 9, 10, 11, 12, 13, 14, 15, 16, 17, 18, 19, 5, 20, 37, 38, 39, 40, 41, 42, 43, 44, 45, 46, 47, 48, 49, 50, 51, 52, 53, 54, 55, 56, 57, 58, 59, 60, 61, 62, 63, 64, 65, 66, 67, 68, 69, 22, 23, 70, 71, 72, 73, 74, 75, 76, 77, 24, 25, 26, 78, 79, 80, 81, 82, 83, 84, 85, 86, 87, 88, 97, 98, 99, 100, 89, 90, 91, 92, 93, 94, 95, 96, 101, 102, 103, 104, 105, 106, 107] (by decide +kernel) (by decide +kernel)
set_option maxRecDepth 20000 in
theorem gX4_doubt_X4_isDoubted : GoodIn wsX4_doubt (wsV RX4 190 RX4 yX4_isDoubted wsX4_isDoubted) := goodIn_app (goodIn_of _ (by decide +kernel)) ggX4_doubt_X4_isDoubted
set_option maxRecDepth 20000 in
theorem ggX4_doubt_X4_with : GoodIn wsX4_doubt wsX4_with := goodIn_r _ [20] (by decide +kernel) (by decide +kernel)
set_option maxRecDepth 20000 in
theorem gX4_doubt_X4_with : GoodIn wsX4_doubt (va_wsS RX4 176 yX4_with wsX4_with) := goodIn_app (goodIn_of _ (by decide +kernel)) ggX4_doubt_X4_with
theorem dX4_doubt_0 : decode cX4_doubt 0 = .ok (.iload_n 1, 1) := by decide +kernel
theorem dX4_doubt_1 : decode cX4_doubt 1 = .ok (.invokestatic 94, 3) := by decide +kernel
theorem dX4_doubt_4 : decode cX4_doubt 4 = .ok (.ifCond .eq 14, 3) := by decide +kernel
theorem dX4_doubt_7 : decode cX4_doubt 7 = .ok (.iload_n 2, 1) := by decide +kernel
theorem dX4_doubt_8 : decode cX4_doubt 8 = .ok (.ifCond .lt 10, 3) := by decide +kernel
theorem dX4_doubt_11 : decode cX4_doubt 11 = .ok (.iload_n 2, 1) := by decide +kernel
theorem dX4_doubt_12 : decode cX4_doubt 12 = .ok (.sipush 9999, 3) := by decide +kernel
theorem dX4_doubt_15 : decode cX4_doubt 15 = .ok (.if_icmp .le 6, 3) := by decide +kernel
theorem dX4_doubt_18 : decode cX4_doubt 18 = .ok (.bipush (-2), 2) := by decide +kernel
theorem dX4_doubt_20 : decode cX4_doubt 20 = .ok (.ireturn, 1) := by decide +kernel
theorem dX4_doubt_21 : decode cX4_doubt 21 = .ok (.aload_n 0, 1) := by decide +kernel
theorem dX4_doubt_22 : decode cX4_doubt 22 = .ok (.getfield 12, 3) := by decide +kernel
theorem dX4_doubt_25 : decode cX4_doubt 25 = .ok (.iload_n 1, 1) := by decide +kernel
theorem dX4_doubt_26 : decode cX4_doubt 26 = .ok (.invokevirtual 107, 3) := by decide +kernel
theorem dX4_doubt_29 : decode cX4_doubt 29 = .ok (.istore_n 3, 1) := by decide +kernel
theorem dX4_doubt_30 : decode cX4_doubt 30 = .ok (.iconst 0, 1) := by decide +kernel
theorem dX4_doubt_31 : decode cX4_doubt 31 = .ok (.istore 4, 2) := by decide +kernel
theorem dX4_doubt_33 : decode cX4_doubt 33 = .ok (.iconst 0, 1) := by decide +kernel
theorem dX4_doubt_34 : decode cX4_doubt 34 = .ok (.istore 5, 2) := by decide +kernel
theorem dX4_doubt_36 : decode cX4_doubt 36 = .ok (.iload 5, 2) := by decide +kernel
theorem dX4_doubt_38 : decode cX4_doubt 38 = .ok (.aload_n 0, 1) := by decide +kernel
theorem dX4_doubt_39 : decode cX4_doubt 39 = .ok (.getfield 12, 3) := by decide +kernel
theorem dX4_doubt_42 : decode cX4_doubt 42 = .ok (.getfield 63, 3) := by decide +kernel
theorem dX4_doubt_45 : decode cX4_doubt 45 = .ok (.if_icmp .ge 47, 3) := by decide +kernel
theorem dX4_doubt_48 : decode cX4_doubt 48 = .ok (.iload_n 3, 1) := by decide +kernel
theorem dX4_doubt_49 : decode cX4_doubt 49 = .ok (.iload 5, 2) := by decide +kernel
theorem dX4_doubt_51 : decode cX4_doubt 51 = .ok (.invokestatic 187, 3) := by decide +kernel
theorem dX4_doubt_54 : decode cX4_doubt 54 = .ok (.ifCond .eq 32, 3) := by decide +kernel
theorem dX4_doubt_57 : decode cX4_doubt 57 = .ok (.iload_n 3, 1) := by decide +kernel
theorem dX4_doubt_58 : decode cX4_doubt 58 = .ok (.iload 5, 2) := by decide +kernel
theorem dX4_doubt_60 : decode cX4_doubt 60 = .ok (.invokestatic 173, 3) := by decide +kernel
theorem dX4_doubt_63 : decode cX4_doubt 63 = .ok (.ifCond .eq 23, 3) := by decide +kernel
theorem dX4_doubt_66 : decode cX4_doubt 66 = .ok (.aload_n 0, 1) := by decide +kernel
theorem dX4_doubt_67 : decode cX4_doubt 67 = .ok (.iload_n 1, 1) := by decide +kernel
theorem dX4_doubt_68 : decode cX4_doubt 68 = .ok (.iload 5, 2) := by decide +kernel
theorem dX4_doubt_70 : decode cX4_doubt 70 = .ok (.iload_n 2, 1) := by decide +kernel
theorem dX4_doubt_71 : decode cX4_doubt 71 = .ok (.invokevirtual 190, 3) := by decide +kernel
theorem dX4_doubt_74 : decode cX4_doubt 74 = .ok (.ifCond .eq 12, 3) := by decide +kernel
theorem dX4_doubt_77 : decode cX4_doubt 77 = .ok (.iload 4, 2) := by decide +kernel
theorem dX4_doubt_79 : decode cX4_doubt 79 = .ok (.iload 5, 2) := by decide +kernel
theorem dX4_doubt_81 : decode cX4_doubt 81 = .ok (.invokestatic 176, 3) := by decide +kernel
theorem dX4_doubt_84 : decode cX4_doubt 84 = .ok (.istore 4, 2) := by decide +kernel
theorem dX4_doubt_86 : decode cX4_doubt 86 = .ok (.iinc 5 1, 3) := by decide +kernel
theorem dX4_doubt_89 : decode cX4_doubt 89 = .ok (.goto (-53), 3) := by decide +kernel
theorem dX4_doubt_92 : decode cX4_doubt 92 = .ok (.iload 4, 2) := by decide +kernel
theorem dX4_doubt_94 : decode cX4_doubt 94 = .ok (.ireturn, 1) := by decide +kernel
theorem dX4_kept_0 : decode cX4_kept 0 = .ok (.iload_n 1, 1) := by decide +kernel
theorem dX4_kept_1 : decode cX4_kept 1 = .ok (.ifCond .lt 14, 3) := by decide +kernel
theorem dX4_kept_4 : decode cX4_kept 4 = .ok (.iload_n 1, 1) := by decide +kernel
theorem dX4_kept_5 : decode cX4_kept 5 = .ok (.aload_n 0, 1) := by decide +kernel
theorem dX4_kept_6 : decode cX4_kept 6 = .ok (.getfield 27, 3) := by decide +kernel
theorem dX4_kept_9 : decode cX4_kept 9 = .ok (.getfield 194, 3) := by decide +kernel
theorem dX4_kept_12 : decode cX4_kept 12 = .ok (.if_icmp .lt 6, 3) := by decide +kernel
theorem dX4_kept_15 : decode cX4_kept 15 = .ok (.bipush (-6), 2) := by decide +kernel
theorem dX4_kept_17 : decode cX4_kept 17 = .ok (.ireturn, 1) := by decide +kernel
theorem dX4_kept_18 : decode cX4_kept 18 = .ok (.aload_n 0, 1) := by decide +kernel
theorem dX4_kept_19 : decode cX4_kept 19 = .ok (.getfield 27, 3) := by decide +kernel
theorem dX4_kept_22 : decode cX4_kept 22 = .ok (.getfield 197, 3) := by decide +kernel
theorem dX4_kept_25 : decode cX4_kept 25 = .ok (.iload_n 1, 1) := by decide +kernel
theorem dX4_kept_26 : decode cX4_kept 26 = .ok (.aaload, 1) := by decide +kernel
theorem dX4_kept_27 : decode cX4_kept 27 = .ok (.getfield 201, 3) := by decide +kernel
theorem dX4_kept_30 : decode cX4_kept 30 = .ok (.ireturn, 1) := by decide +kernel
set_option maxRecDepth 20000 in
theorem ggX4_image_X1_copyFrom : GoodIn wsX4_image wsX1_copyFrom := goodIn_r _ [8, 9, 10, 11, 12, 13, 14, 15, 16, 17, 18, 19, 20, 30, 31, 32, 33, 34, 35, 36, 37] (by decide +kernel) (by decide +kernel)
set_option maxRecDepth 20000 in
theorem gX4_image_X1_copyFrom : GoodIn wsX4_image (wsV RX4 204 RX1 yX1_copyFrom wsX1_copyFrom) := goodIn_app (goodIn_of _ (by decide +kernel)) ggX4_image_X1_copyFrom
set_option maxRecDepth 20000 in
theorem ggX4_image_X4_with : GoodIn wsX4_image wsX4_with := goodIn_r _ [24] (by decide +kernel) (by decide +kernel)
set_option maxRecDepth 20000 in
theorem gX4_image_X4_with : GoodIn wsX4_image (va_wsS RX4 176 yX4_with wsX4_with) := goodIn_app (goodIn_of _ (by decide +kernel)) ggX4_image_X4_with
theorem dX4_image_0 : decode cX4_image 0 = .ok (.iload_n 1, 1) := by decide +kernel
theorem dX4_image_1 : decode cX4_image 1 = .ok (.ifCond .lt 8, 3) := by decide +kernel
theorem dX4_image_4 : decode cX4_image 4 = .ok (.iload_n 1, 1) := by decide +kernel
theorem dX4_image_5 : decode cX4_image 5 = .ok (.iconst 2, 1) := by decide +kernel
theorem dX4_image_6 : decode cX4_image 6 = .ok (.if_icmp .lt 6, 3) := by decide +kernel
theorem dX4_image_9 : decode cX4_image 9 = .ok (.bipush (-2), 2) := by decide +kernel
theorem dX4_image_11 : decode cX4_image 11 = .ok (.ireturn, 1) := by decide +kernel
theorem dX4_image_12 : decode cX4_image 12 = .ok (.aload_n 0, 1) := by decide +kernel
theorem dX4_image_13 : decode cX4_image 13 = .ok (.getfield 16, 3) := by decide +kernel
theorem dX4_image_16 : decode cX4_image 16 = .ok (.iload_n 1, 1) := by decide +kernel
theorem dX4_image_17 : decode cX4_image 17 = .ok (.aaload, 1) := by decide +kernel
theorem dX4_image_18 : decode cX4_image 18 = .ok (.aload_n 0, 1) := by decide +kernel
theorem dX4_image_19 : decode cX4_image 19 = .ok (.getfield 12, 3) := by decide +kernel
theorem dX4_image_22 : decode cX4_image 22 = .ok (.invokevirtual 204, 3) := by decide +kernel
theorem dX4_image_25 : decode cX4_image 25 = .ok (.aload_n 0, 1) := by decide +kernel
theorem dX4_image_26 : decode cX4_image 26 = .ok (.aload_n 0, 1) := by decide +kernel
theorem dX4_image_27 : decode cX4_image 27 = .ok (.getfield 20, 3) := by decide +kernel
theorem dX4_image_30 : decode cX4_image 30 = .ok (.iload_n 1, 1) := by decide +kernel
theorem dX4_image_31 : decode cX4_image 31 = .ok (.invokestatic 176, 3) := by decide +kernel
theorem dX4_image_34 : decode cX4_image 34 = .ok (.putfield 20, 3) := by decide +kernel
theorem dX4_image_37 : decode cX4_image 37 = .ok (.iconst 1, 1) := by decide +kernel
theorem dX4_image_38 : decode cX4_image 38 = .ok (.ireturn, 1) := by decide +kernel
set_option maxRecDepth 20000 in
theorem ggX4_restore_X4_isIn : GoodIn wsX4_restore wsX4_isIn := goodIn_r _ [8] (by decide +kernel) (by decide +kernel)
set_option maxRecDepth 20000 in
theorem gX4_restore_X4_isIn : GoodIn wsX4_restore (va_wsS RX4 187 yX4_isIn wsX4_isIn) := goodIn_app (goodIn_of _ (by decide +kernel)) ggX4_restore_X4_isIn
set_option maxRecDepth 20000 in
theorem ggX4_restore_X1_copyFrom : GoodIn wsX4_restore wsX1_copyFrom := goodIn_r _ [13, 14, 15, 16, 17, 18, 19, 20, 21, 22, 23, 24, 25, 37, 38, 39, 40, 41, 42, 43, 44] (by decide +kernel) (by decide +kernel)
set_option maxRecDepth 20000 in
theorem gX4_restore_X1_copyFrom : GoodIn wsX4_restore (wsV RX4 204 RX1 yX1_copyFrom wsX1_copyFrom) := goodIn_app (goodIn_of _ (by decide +kernel)) ggX4_restore_X1_copyFrom
set_option maxRecDepth 20000 in
theorem ggX4_restore_X3_letAllGo : GoodIn wsX4_restore wsX3_letAllGo := goodIn_r _ [30, 31, 45, 46, 47, 48, 49, 50, 51] (by decide +kernel) (by decide +kernel)
set_option maxRecDepth 20000 in
theorem gX4_restore_X3_letAllGo : GoodIn wsX4_restore (wsV RX4 49 RX3 yX3_letAllGo wsX3_letAllGo) := goodIn_app (goodIn_of _ (by decide +kernel)) ggX4_restore_X3_letAllGo
theorem dX4_restore_0 : decode cX4_restore 0 = .ok (.iload_n 1, 1) := by decide +kernel
theorem dX4_restore_1 : decode cX4_restore 1 = .ok (.ifCond .lt 8, 3) := by decide +kernel
theorem dX4_restore_4 : decode cX4_restore 4 = .ok (.iload_n 1, 1) := by decide +kernel
theorem dX4_restore_5 : decode cX4_restore 5 = .ok (.iconst 2, 1) := by decide +kernel
theorem dX4_restore_6 : decode cX4_restore 6 = .ok (.if_icmp .lt 6, 3) := by decide +kernel
theorem dX4_restore_9 : decode cX4_restore 9 = .ok (.bipush (-2), 2) := by decide +kernel
theorem dX4_restore_11 : decode cX4_restore 11 = .ok (.ireturn, 1) := by decide +kernel
theorem dX4_restore_12 : decode cX4_restore 12 = .ok (.aload_n 0, 1) := by decide +kernel
theorem dX4_restore_13 : decode cX4_restore 13 = .ok (.getfield 20, 3) := by decide +kernel
theorem dX4_restore_16 : decode cX4_restore 16 = .ok (.iload_n 1, 1) := by decide +kernel
theorem dX4_restore_17 : decode cX4_restore 17 = .ok (.invokestatic 187, 3) := by decide +kernel
theorem dX4_restore_20 : decode cX4_restore 20 = .ok (.ifCond .ne 6, 3) := by decide +kernel
theorem dX4_restore_23 : decode cX4_restore 23 = .ok (.bipush (-3), 2) := by decide +kernel
theorem dX4_restore_25 : decode cX4_restore 25 = .ok (.ireturn, 1) := by decide +kernel
theorem dX4_restore_26 : decode cX4_restore 26 = .ok (.aload_n 0, 1) := by decide +kernel
theorem dX4_restore_27 : decode cX4_restore 27 = .ok (.getfield 12, 3) := by decide +kernel
theorem dX4_restore_30 : decode cX4_restore 30 = .ok (.aload_n 0, 1) := by decide +kernel
theorem dX4_restore_31 : decode cX4_restore 31 = .ok (.getfield 16, 3) := by decide +kernel
theorem dX4_restore_34 : decode cX4_restore 34 = .ok (.iload_n 1, 1) := by decide +kernel
theorem dX4_restore_35 : decode cX4_restore 35 = .ok (.aaload, 1) := by decide +kernel
theorem dX4_restore_36 : decode cX4_restore 36 = .ok (.invokevirtual 204, 3) := by decide +kernel
theorem dX4_restore_39 : decode cX4_restore 39 = .ok (.aload_n 0, 1) := by decide +kernel
theorem dX4_restore_40 : decode cX4_restore 40 = .ok (.getfield 27, 3) := by decide +kernel
theorem dX4_restore_43 : decode cX4_restore 43 = .ok (.invokevirtual 49, 3) := by decide +kernel
theorem dX4_restore_46 : decode cX4_restore 46 = .ok (.iconst 1, 1) := by decide +kernel
theorem dX4_restore_47 : decode cX4_restore 47 = .ok (.ireturn, 1) := by decide +kernel
set_option maxRecDepth 20000 in
theorem ggX4_count_X1_rowHasPlots : GoodIn wsX4_count wsX1_rowHasPlots := goodIn_r _ [15, 16, 17, 28, 29, 30, 31, 32, 33, 34, 35] (by decide +kernel) (by decide +kernel)
set_option maxRecDepth 20000 in
theorem gX4_count_X1_rowHasPlots : GoodIn wsX4_count (wsV RX4 208 RX1 yX1_rowHasPlots wsX1_rowHasPlots) := goodIn_app (goodIn_of _ (by decide +kernel)) ggX4_count_X1_rowHasPlots
set_option maxRecDepth 20000 in
theorem ggX4_count_X1_plotCount : GoodIn wsX4_count wsX1_plotCount := goodIn_r _ [21, 17, 16, 22, 12, 13, 14, 15, 28, 29, 30, 31, 32, 33, 34, 35] (by decide +kernel) (by decide +kernel)
set_option maxRecDepth 20000 in
theorem gX4_count_X1_plotCount : GoodIn wsX4_count (wsV RX4 52 RX1 yX1_plotCount wsX1_plotCount) := goodIn_app (goodIn_of _ (by decide +kernel)) ggX4_count_X1_plotCount
theorem dX4_count_0 : decode cX4_count 0 = .ok (.iload_n 1, 1) := by decide +kernel
theorem dX4_count_1 : decode cX4_count 1 = .ok (.bipush 10, 2) := by decide +kernel
theorem dX4_count_3 : decode cX4_count 3 = .ok (.if_icmp .lt 40, 3) := by decide +kernel
theorem dX4_count_6 : decode cX4_count 6 = .ok (.iload_n 1, 1) := by decide +kernel
theorem dX4_count_7 : decode cX4_count 7 = .ok (.bipush 26, 2) := by decide +kernel
theorem dX4_count_9 : decode cX4_count 9 = .ok (.if_icmp .ge 34, 3) := by decide +kernel
theorem dX4_count_12 : decode cX4_count 12 = .ok (.iload_n 1, 1) := by decide +kernel
theorem dX4_count_13 : decode cX4_count 13 = .ok (.bipush 10, 2) := by decide +kernel
theorem dX4_count_15 : decode cX4_count 15 = .ok (.isub, 1) := by decide +kernel
theorem dX4_count_16 : decode cX4_count 16 = .ok (.istore_n 2, 1) := by decide +kernel
theorem dX4_count_17 : decode cX4_count 17 = .ok (.aload_n 0, 1) := by decide +kernel
theorem dX4_count_18 : decode cX4_count 18 = .ok (.getfield 12, 3) := by decide +kernel
theorem dX4_count_21 : decode cX4_count 21 = .ok (.iload_n 2, 1) := by decide +kernel
theorem dX4_count_22 : decode cX4_count 22 = .ok (.invokevirtual 208, 3) := by decide +kernel
theorem dX4_count_25 : decode cX4_count 25 = .ok (.ifCond .eq 15, 3) := by decide +kernel
theorem dX4_count_28 : decode cX4_count 28 = .ok (.aload_n 0, 1) := by decide +kernel
theorem dX4_count_29 : decode cX4_count 29 = .ok (.getfield 12, 3) := by decide +kernel
theorem dX4_count_32 : decode cX4_count 32 = .ok (.getfield 42, 3) := by decide +kernel
theorem dX4_count_35 : decode cX4_count 35 = .ok (.iload_n 2, 1) := by decide +kernel
theorem dX4_count_36 : decode cX4_count 36 = .ok (.iaload, 1) := by decide +kernel
theorem dX4_count_37 : decode cX4_count 37 = .ok (.goto 5, 3) := by decide +kernel
theorem dX4_count_40 : decode cX4_count 40 = .ok (.bipush (-6), 2) := by decide +kernel
theorem dX4_count_42 : decode cX4_count 42 = .ok (.ireturn, 1) := by decide +kernel
theorem dX4_count_43 : decode cX4_count 43 = .ok (.iload_n 1, 1) := by decide +kernel
theorem dX4_count_44 : decode cX4_count 44 = .ok (.bipush 30, 2) := by decide +kernel
theorem dX4_count_46 : decode cX4_count 46 = .ok (.if_icmp .lt 40, 3) := by decide +kernel
theorem dX4_count_49 : decode cX4_count 49 = .ok (.iload_n 1, 1) := by decide +kernel
theorem dX4_count_50 : decode cX4_count 50 = .ok (.bipush 46, 2) := by decide +kernel
theorem dX4_count_52 : decode cX4_count 52 = .ok (.if_icmp .ge 34, 3) := by decide +kernel
theorem dX4_count_55 : decode cX4_count 55 = .ok (.iload_n 1, 1) := by decide +kernel
theorem dX4_count_56 : decode cX4_count 56 = .ok (.bipush 30, 2) := by decide +kernel
theorem dX4_count_58 : decode cX4_count 58 = .ok (.isub, 1) := by decide +kernel
theorem dX4_count_59 : decode cX4_count 59 = .ok (.istore_n 2, 1) := by decide +kernel
theorem dX4_count_60 : decode cX4_count 60 = .ok (.aload_n 0, 1) := by decide +kernel
theorem dX4_count_61 : decode cX4_count 61 = .ok (.getfield 12, 3) := by decide +kernel
theorem dX4_count_64 : decode cX4_count 64 = .ok (.iload_n 2, 1) := by decide +kernel
theorem dX4_count_65 : decode cX4_count 65 = .ok (.invokevirtual 208, 3) := by decide +kernel
theorem dX4_count_68 : decode cX4_count 68 = .ok (.ifCond .eq 15, 3) := by decide +kernel
theorem dX4_count_71 : decode cX4_count 71 = .ok (.aload_n 0, 1) := by decide +kernel
theorem dX4_count_72 : decode cX4_count 72 = .ok (.getfield 12, 3) := by decide +kernel
theorem dX4_count_75 : decode cX4_count 75 = .ok (.getfield 46, 3) := by decide +kernel
theorem dX4_count_78 : decode cX4_count 78 = .ok (.iload_n 2, 1) := by decide +kernel
theorem dX4_count_79 : decode cX4_count 79 = .ok (.iaload, 1) := by decide +kernel
theorem dX4_count_80 : decode cX4_count 80 = .ok (.goto 5, 3) := by decide +kernel
theorem dX4_count_83 : decode cX4_count 83 = .ok (.bipush (-6), 2) := by decide +kernel
theorem dX4_count_85 : decode cX4_count 85 = .ok (.ireturn, 1) := by decide +kernel
theorem dX4_count_86 : decode cX4_count 86 = .ok (.iload_n 1, 1) := by decide +kernel
theorem dX4_count_87 : decode cX4_count 87 = .ok (.tableswitch 94 0 6 #[41, 49, 57, 65, 73, 81, 89], 41) := by decide +kernel
theorem dX4_count_128 : decode cX4_count 128 = .ok (.aload_n 0, 1) := by decide +kernel
theorem dX4_count_129 : decode cX4_count 129 = .ok (.getfield 12, 3) := by decide +kernel
theorem dX4_count_132 : decode cX4_count 132 = .ok (.getfield 63, 3) := by decide +kernel
theorem dX4_count_135 : decode cX4_count 135 = .ok (.ireturn, 1) := by decide +kernel
theorem dX4_count_136 : decode cX4_count 136 = .ok (.aload_n 0, 1) := by decide +kernel
theorem dX4_count_137 : decode cX4_count 137 = .ok (.getfield 12, 3) := by decide +kernel
theorem dX4_count_140 : decode cX4_count 140 = .ok (.invokevirtual 52, 3) := by decide +kernel
theorem dX4_count_143 : decode cX4_count 143 = .ok (.ireturn, 1) := by decide +kernel
theorem dX4_count_144 : decode cX4_count 144 = .ok (.aload_n 0, 1) := by decide +kernel
theorem dX4_count_145 : decode cX4_count 145 = .ok (.getfield 27, 3) := by decide +kernel
theorem dX4_count_148 : decode cX4_count 148 = .ok (.getfield 194, 3) := by decide +kernel
theorem dX4_count_151 : decode cX4_count 151 = .ok (.ireturn, 1) := by decide +kernel
theorem dX4_count_152 : decode cX4_count 152 = .ok (.aload_n 0, 1) := by decide +kernel
theorem dX4_count_153 : decode cX4_count 153 = .ok (.getfield 27, 3) := by decide +kernel
theorem dX4_count_156 : decode cX4_count 156 = .ok (.getfield 211, 3) := by decide +kernel
theorem dX4_count_159 : decode cX4_count 159 = .ok (.ireturn, 1) := by decide +kernel
theorem dX4_count_160 : decode cX4_count 160 = .ok (.aload_n 0, 1) := by decide +kernel
theorem dX4_count_161 : decode cX4_count 161 = .ok (.getfield 27, 3) := by decide +kernel
theorem dX4_count_164 : decode cX4_count 164 = .ok (.getfield 214, 3) := by decide +kernel
theorem dX4_count_167 : decode cX4_count 167 = .ok (.ireturn, 1) := by decide +kernel
theorem dX4_count_168 : decode cX4_count 168 = .ok (.aload_n 0, 1) := by decide +kernel
theorem dX4_count_169 : decode cX4_count 169 = .ok (.getfield 27, 3) := by decide +kernel
theorem dX4_count_172 : decode cX4_count 172 = .ok (.getfield 217, 3) := by decide +kernel
theorem dX4_count_175 : decode cX4_count 175 = .ok (.ireturn, 1) := by decide +kernel
theorem dX4_count_176 : decode cX4_count 176 = .ok (.aload_n 0, 1) := by decide +kernel
theorem dX4_count_177 : decode cX4_count 177 = .ok (.getfield 20, 3) := by decide +kernel
theorem dX4_count_180 : decode cX4_count 180 = .ok (.ireturn, 1) := by decide +kernel
theorem dX4_count_181 : decode cX4_count 181 = .ok (.bipush (-2), 2) := by decide +kernel
theorem dX4_count_183 : decode cX4_count 183 = .ok (.ireturn, 1) := by decide +kernel
theorem dX4_isPlot_0 : decode cX4_isPlot 0 = .ok (.iload_n 0, 1) := by decide +kernel
theorem dX4_isPlot_1 : decode cX4_isPlot 1 = .ok (.ifCond .lt 23, 3) := by decide +kernel
theorem dX4_isPlot_4 : decode cX4_isPlot 4 = .ok (.iload_n 0, 1) := by decide +kernel
theorem dX4_isPlot_5 : decode cX4_isPlot 5 = .ok (.bipush 16, 2) := by decide +kernel
theorem dX4_isPlot_7 : decode cX4_isPlot 7 = .ok (.if_icmp .ge 17, 3) := by decide +kernel
theorem dX4_isPlot_10 : decode cX4_isPlot 10 = .ok (.iload_n 1, 1) := by decide +kernel
theorem dX4_isPlot_11 : decode cX4_isPlot 11 = .ok (.ifCond .lt 13, 3) := by decide +kernel
theorem dX4_isPlot_14 : decode cX4_isPlot 14 = .ok (.iload_n 1, 1) := by decide +kernel
theorem dX4_isPlot_15 : decode cX4_isPlot 15 = .ok (.bipush 16, 2) := by decide +kernel
theorem dX4_isPlot_17 : decode cX4_isPlot 17 = .ok (.if_icmp .ge 7, 3) := by decide +kernel
theorem dX4_isPlot_20 : decode cX4_isPlot 20 = .ok (.iconst 1, 1) := by decide +kernel
theorem dX4_isPlot_21 : decode cX4_isPlot 21 = .ok (.goto 4, 3) := by decide +kernel
theorem dX4_isPlot_24 : decode cX4_isPlot 24 = .ok (.iconst 0, 1) := by decide +kernel
theorem dX4_isPlot_25 : decode cX4_isPlot 25 = .ok (.ireturn, 1) := by decide +kernel
theorem dX4_isPlace_0 : decode cX4_isPlace 0 = .ok (.iload_n 0, 1) := by decide +kernel
theorem dX4_isPlace_1 : decode cX4_isPlace 1 = .ok (.bipush (-20), 2) := by decide +kernel
theorem dX4_isPlace_3 : decode cX4_isPlace 3 = .ok (.if_icmp .lt 25, 3) := by decide +kernel
theorem dX4_isPlace_6 : decode cX4_isPlace 6 = .ok (.iload_n 0, 1) := by decide +kernel
theorem dX4_isPlace_7 : decode cX4_isPlace 7 = .ok (.bipush 35, 2) := by decide +kernel
theorem dX4_isPlace_9 : decode cX4_isPlace 9 = .ok (.if_icmp .gt 19, 3) := by decide +kernel
theorem dX4_isPlace_12 : decode cX4_isPlace 12 = .ok (.iload_n 1, 1) := by decide +kernel
theorem dX4_isPlace_13 : decode cX4_isPlace 13 = .ok (.bipush (-20), 2) := by decide +kernel
theorem dX4_isPlace_15 : decode cX4_isPlace 15 = .ok (.if_icmp .lt 13, 3) := by decide +kernel
theorem dX4_isPlace_18 : decode cX4_isPlace 18 = .ok (.iload_n 1, 1) := by decide +kernel
theorem dX4_isPlace_19 : decode cX4_isPlace 19 = .ok (.bipush 35, 2) := by decide +kernel
theorem dX4_isPlace_21 : decode cX4_isPlace 21 = .ok (.if_icmp .gt 7, 3) := by decide +kernel
theorem dX4_isPlace_24 : decode cX4_isPlace 24 = .ok (.iconst 1, 1) := by decide +kernel
theorem dX4_isPlace_25 : decode cX4_isPlace 25 = .ok (.goto 4, 3) := by decide +kernel
theorem dX4_isPlace_28 : decode cX4_isPlace 28 = .ok (.iconst 0, 1) := by decide +kernel
theorem dX4_isPlace_29 : decode cX4_isPlace 29 = .ok (.ireturn, 1) := by decide +kernel
theorem dX4_isDay_0 : decode cX4_isDay 0 = .ok (.iload_n 0, 1) := by decide +kernel
theorem dX4_isDay_1 : decode cX4_isDay 1 = .ok (.ifCond .lt 13, 3) := by decide +kernel
theorem dX4_isDay_4 : decode cX4_isDay 4 = .ok (.iload_n 0, 1) := by decide +kernel
theorem dX4_isDay_5 : decode cX4_isDay 5 = .ok (.bipush 64, 2) := by decide +kernel
theorem dX4_isDay_7 : decode cX4_isDay 7 = .ok (.if_icmp .ge 7, 3) := by decide +kernel
theorem dX4_isDay_10 : decode cX4_isDay 10 = .ok (.iconst 1, 1) := by decide +kernel
theorem dX4_isDay_11 : decode cX4_isDay 11 = .ok (.goto 4, 3) := by decide +kernel
theorem dX4_isDay_14 : decode cX4_isDay 14 = .ok (.iconst 0, 1) := by decide +kernel
theorem dX4_isDay_15 : decode cX4_isDay 15 = .ok (.ireturn, 1) := by decide +kernel
set_option maxRecDepth 20000 in
theorem ggX4_areDays_X4_isDay : GoodIn wsX4_areDays wsX4_isDay := goodIn_r _ [4] (by decide +kernel) (by decide +kernel)
set_option maxRecDepth 20000 in
theorem gX4_areDays_X4_isDay : GoodIn wsX4_areDays (va_wsS RX4 94 yX4_isDay wsX4_isDay) := goodIn_app (goodIn_of _ (by decide +kernel)) ggX4_areDays_X4_isDay
theorem dX4_areDays_0 : decode cX4_areDays 0 = .ok (.iload_n 0, 1) := by decide +kernel
theorem dX4_areDays_1 : decode cX4_areDays 1 = .ok (.invokestatic 94, 3) := by decide +kernel
theorem dX4_areDays_4 : decode cX4_areDays 4 = .ok (.ifCond .eq 19, 3) := by decide +kernel
theorem dX4_areDays_7 : decode cX4_areDays 7 = .ok (.iload_n 1, 1) := by decide +kernel
theorem dX4_areDays_8 : decode cX4_areDays 8 = .ok (.invokestatic 94, 3) := by decide +kernel
theorem dX4_areDays_11 : decode cX4_areDays 11 = .ok (.ifCond .eq 12, 3) := by decide +kernel
theorem dX4_areDays_14 : decode cX4_areDays 14 = .ok (.iload_n 0, 1) := by decide +kernel
theorem dX4_areDays_15 : decode cX4_areDays 15 = .ok (.iload_n 1, 1) := by decide +kernel
theorem dX4_areDays_16 : decode cX4_areDays 16 = .ok (.if_icmp .gt 7, 3) := by decide +kernel
theorem dX4_areDays_19 : decode cX4_areDays 19 = .ok (.iconst 1, 1) := by decide +kernel
theorem dX4_areDays_20 : decode cX4_areDays 20 = .ok (.goto 4, 3) := by decide +kernel
theorem dX4_areDays_23 : decode cX4_areDays 23 = .ok (.iconst 0, 1) := by decide +kernel
theorem dX4_areDays_24 : decode cX4_areDays 24 = .ok (.ireturn, 1) := by decide +kernel
theorem dX4_isPart_0 : decode cX4_isPart 0 = .ok (.iload_n 0, 1) := by decide +kernel
theorem dX4_isPart_1 : decode cX4_isPart 1 = .ok (.ifCond .eq 8, 3) := by decide +kernel
theorem dX4_isPart_4 : decode cX4_isPart 4 = .ok (.iload_n 0, 1) := by decide +kernel
theorem dX4_isPart_5 : decode cX4_isPart 5 = .ok (.iconst 1, 1) := by decide +kernel
theorem dX4_isPart_6 : decode cX4_isPart 6 = .ok (.if_icmp .ne 7, 3) := by decide +kernel
theorem dX4_isPart_9 : decode cX4_isPart 9 = .ok (.iconst 1, 1) := by decide +kernel
theorem dX4_isPart_10 : decode cX4_isPart 10 = .ok (.goto 4, 3) := by decide +kernel
theorem dX4_isPart_13 : decode cX4_isPart 13 = .ok (.iconst 0, 1) := by decide +kernel
theorem dX4_isPart_14 : decode cX4_isPart 14 = .ok (.ireturn, 1) := by decide +kernel
theorem dX4_isIn_0 : decode cX4_isIn 0 = .ok (.iload_n 0, 1) := by decide +kernel
theorem dX4_isIn_1 : decode cX4_isIn 1 = .ok (.iconst 1, 1) := by decide +kernel
theorem dX4_isIn_2 : decode cX4_isIn 2 = .ok (.iload_n 1, 1) := by decide +kernel
theorem dX4_isIn_3 : decode cX4_isIn 3 = .ok (.ishl, 1) := by decide +kernel
theorem dX4_isIn_4 : decode cX4_isIn 4 = .ok (.iand, 1) := by decide +kernel
theorem dX4_isIn_5 : decode cX4_isIn 5 = .ok (.ifCond .eq 7, 3) := by decide +kernel
theorem dX4_isIn_8 : decode cX4_isIn 8 = .ok (.iconst 1, 1) := by decide +kernel
theorem dX4_isIn_9 : decode cX4_isIn 9 = .ok (.goto 4, 3) := by decide +kernel
theorem dX4_isIn_12 : decode cX4_isIn 12 = .ok (.iconst 0, 1) := by decide +kernel
theorem dX4_isIn_13 : decode cX4_isIn 13 = .ok (.ireturn, 1) := by decide +kernel
theorem dX4_with_0 : decode cX4_with 0 = .ok (.iload_n 0, 1) := by decide +kernel
theorem dX4_with_1 : decode cX4_with 1 = .ok (.iconst 1, 1) := by decide +kernel
theorem dX4_with_2 : decode cX4_with 2 = .ok (.iload_n 1, 1) := by decide +kernel
theorem dX4_with_3 : decode cX4_with 3 = .ok (.ishl, 1) := by decide +kernel
theorem dX4_with_4 : decode cX4_with 4 = .ok (.ior, 1) := by decide +kernel
theorem dX4_with_5 : decode cX4_with 5 = .ok (.ireturn, 1) := by decide +kernel
theorem dX4_without_0 : decode cX4_without 0 = .ok (.iload_n 0, 1) := by decide +kernel
theorem dX4_without_1 : decode cX4_without 1 = .ok (.iconst 1, 1) := by decide +kernel
theorem dX4_without_2 : decode cX4_without 2 = .ok (.iload_n 1, 1) := by decide +kernel
theorem dX4_without_3 : decode cX4_without 3 = .ok (.ishl, 1) := by decide +kernel
theorem dX4_without_4 : decode cX4_without 4 = .ok (.iconst (-1), 1) := by decide +kernel
theorem dX4_without_5 : decode cX4_without 5 = .ok (.ixor, 1) := by decide +kernel
theorem dX4_without_6 : decode cX4_without 6 = .ok (.iand, 1) := by decide +kernel
theorem dX4_without_7 : decode cX4_without 7 = .ok (.ireturn, 1) := by decide +kernel
set_option maxRecDepth 20000 in
theorem ggX4_part_X4_upper : GoodIn wsX4_part wsX4_upper := goodIn_r _ [4, 5, 6, 3, 7] (by decide +kernel) (by decide +kernel)
set_option maxRecDepth 20000 in
theorem gX4_part_X4_upper : GoodIn wsX4_part (va_wsS RX4 129 yX4_upper wsX4_upper) := goodIn_app (goodIn_of _ (by decide +kernel)) ggX4_part_X4_upper
set_option maxRecDepth 20000 in
theorem ggX4_part_X4_lower : GoodIn wsX4_part wsX4_lower := goodIn_r _ [10, 5, 6, 3, 7] (by decide +kernel) (by decide +kernel)
set_option maxRecDepth 20000 in
theorem gX4_part_X4_lower : GoodIn wsX4_part (va_wsS RX4 132 yX4_lower wsX4_lower) := goodIn_app (goodIn_of _ (by decide +kernel)) ggX4_part_X4_lower
theorem dX4_part_0 : decode cX4_part 0 = .ok (.iload_n 0, 1) := by decide +kernel
theorem dX4_part_1 : decode cX4_part 1 = .ok (.ifCond .ne 11, 3) := by decide +kernel
theorem dX4_part_4 : decode cX4_part 4 = .ok (.iload_n 1, 1) := by decide +kernel
theorem dX4_part_5 : decode cX4_part 5 = .ok (.iload_n 2, 1) := by decide +kernel
theorem dX4_part_6 : decode cX4_part 6 = .ok (.invokestatic 129, 3) := by decide +kernel
theorem dX4_part_9 : decode cX4_part 9 = .ok (.goto 8, 3) := by decide +kernel
theorem dX4_part_12 : decode cX4_part 12 = .ok (.iload_n 1, 1) := by decide +kernel
theorem dX4_part_13 : decode cX4_part 13 = .ok (.iload_n 2, 1) := by decide +kernel
theorem dX4_part_14 : decode cX4_part 14 = .ok (.invokestatic 132, 3) := by decide +kernel
theorem dX4_part_17 : decode cX4_part 17 = .ok (.ireturn, 1) := by decide +kernel
set_option maxRecDepth 20000 in
theorem ggX4_upper_X4_commonDivisor : GoodIn wsX4_upper wsX4_commonDivisor := goodIn_r _ [4] (by decide +kernel) (by decide +kernel)
set_option maxRecDepth 20000 in
theorem gX4_upper_X4_commonDivisor : GoodIn wsX4_upper (va_wsS RX4 220 yX4_commonDivisor wsX4_commonDivisor) := goodIn_app (goodIn_of _ (by decide +kernel)) ggX4_upper_X4_commonDivisor
theorem dX4_upper_0 : decode cX4_upper 0 = .ok (.iload_n 0, 1) := by decide +kernel
theorem dX4_upper_1 : decode cX4_upper 1 = .ok (.iload_n 1, 1) := by decide +kernel
theorem dX4_upper_2 : decode cX4_upper 2 = .ok (.invokestatic 220, 3) := by decide +kernel
theorem dX4_upper_5 : decode cX4_upper 5 = .ok (.istore_n 2, 1) := by decide +kernel
theorem dX4_upper_6 : decode cX4_upper 6 = .ok (.iload_n 2, 1) := by decide +kernel
theorem dX4_upper_7 : decode cX4_upper 7 = .ok (.ifCond .ne 7, 3) := by decide +kernel
theorem dX4_upper_10 : decode cX4_upper 10 = .ok (.iconst 0, 1) := by decide +kernel
theorem dX4_upper_11 : decode cX4_upper 11 = .ok (.goto 6, 3) := by decide +kernel
theorem dX4_upper_14 : decode cX4_upper 14 = .ok (.iload_n 0, 1) := by decide +kernel
theorem dX4_upper_15 : decode cX4_upper 15 = .ok (.iload_n 2, 1) := by decide +kernel
theorem dX4_upper_16 : decode cX4_upper 16 = .ok (.idiv, 1) := by decide +kernel
theorem dX4_upper_17 : decode cX4_upper 17 = .ok (.ireturn, 1) := by decide +kernel
set_option maxRecDepth 20000 in
theorem ggX4_lower_X4_commonDivisor : GoodIn wsX4_lower wsX4_commonDivisor := goodIn_r _ [4] (by decide +kernel) (by decide +kernel)
set_option maxRecDepth 20000 in
theorem gX4_lower_X4_commonDivisor : GoodIn wsX4_lower (va_wsS RX4 220 yX4_commonDivisor wsX4_commonDivisor) := goodIn_app (goodIn_of _ (by decide +kernel)) ggX4_lower_X4_commonDivisor
theorem dX4_lower_0 : decode cX4_lower 0 = .ok (.iload_n 0, 1) := by decide +kernel
theorem dX4_lower_1 : decode cX4_lower 1 = .ok (.iload_n 1, 1) := by decide +kernel
theorem dX4_lower_2 : decode cX4_lower 2 = .ok (.invokestatic 220, 3) := by decide +kernel
theorem dX4_lower_5 : decode cX4_lower 5 = .ok (.istore_n 2, 1) := by decide +kernel
theorem dX4_lower_6 : decode cX4_lower 6 = .ok (.iload_n 2, 1) := by decide +kernel
theorem dX4_lower_7 : decode cX4_lower 7 = .ok (.ifCond .ne 7, 3) := by decide +kernel
theorem dX4_lower_10 : decode cX4_lower 10 = .ok (.iconst 1, 1) := by decide +kernel
theorem dX4_lower_11 : decode cX4_lower 11 = .ok (.goto 6, 3) := by decide +kernel
theorem dX4_lower_14 : decode cX4_lower 14 = .ok (.iload_n 1, 1) := by decide +kernel
theorem dX4_lower_15 : decode cX4_lower 15 = .ok (.iload_n 2, 1) := by decide +kernel
theorem dX4_lower_16 : decode cX4_lower 16 = .ok (.idiv, 1) := by decide +kernel
theorem dX4_lower_17 : decode cX4_lower 17 = .ok (.ireturn, 1) := by decide +kernel
theorem dX4_commonDivisor_0 : decode cX4_commonDivisor 0 = .ok (.iload_n 0, 1) := by decide +kernel
theorem dX4_commonDivisor_1 : decode cX4_commonDivisor 1 = .ok (.istore_n 2, 1) := by decide +kernel
theorem dX4_commonDivisor_2 : decode cX4_commonDivisor 2 = .ok (.iload_n 1, 1) := by decide +kernel
theorem dX4_commonDivisor_3 : decode cX4_commonDivisor 3 = .ok (.istore_n 3, 1) := by decide +kernel
theorem dX4_commonDivisor_4 : decode cX4_commonDivisor 4 = .ok (.iconst 0, 1) := by decide +kernel
theorem dX4_commonDivisor_5 : decode cX4_commonDivisor 5 = .ok (.istore 4, 2) := by decide +kernel
theorem dX4_commonDivisor_7 : decode cX4_commonDivisor 7 = .ok (.iload 4, 2) := by decide +kernel
theorem dX4_commonDivisor_9 : decode cX4_commonDivisor 9 = .ok (.bipush 64, 2) := by decide +kernel
theorem dX4_commonDivisor_11 : decode cX4_commonDivisor 11 = .ok (.if_icmp .ge 23, 3) := by decide +kernel
theorem dX4_commonDivisor_14 : decode cX4_commonDivisor 14 = .ok (.iload_n 3, 1) := by decide +kernel
theorem dX4_commonDivisor_15 : decode cX4_commonDivisor 15 = .ok (.ifCond .eq 19, 3) := by decide +kernel
theorem dX4_commonDivisor_18 : decode cX4_commonDivisor 18 = .ok (.iload_n 2, 1) := by decide +kernel
theorem dX4_commonDivisor_19 : decode cX4_commonDivisor 19 = .ok (.iload_n 3, 1) := by decide +kernel
theorem dX4_commonDivisor_20 : decode cX4_commonDivisor 20 = .ok (.irem, 1) := by decide +kernel
theorem dX4_commonDivisor_21 : decode cX4_commonDivisor 21 = .ok (.istore 5, 2) := by decide +kernel
theorem dX4_commonDivisor_23 : decode cX4_commonDivisor 23 = .ok (.iload_n 3, 1) := by decide +kernel
theorem dX4_commonDivisor_24 : decode cX4_commonDivisor 24 = .ok (.istore_n 2, 1) := by decide +kernel
theorem dX4_commonDivisor_25 : decode cX4_commonDivisor 25 = .ok (.iload 5, 2) := by decide +kernel
theorem dX4_commonDivisor_27 : decode cX4_commonDivisor 27 = .ok (.istore_n 3, 1) := by decide +kernel
theorem dX4_commonDivisor_28 : decode cX4_commonDivisor 28 = .ok (.iinc 4 1, 3) := by decide +kernel
theorem dX4_commonDivisor_31 : decode cX4_commonDivisor 31 = .ok (.goto (-24), 3) := by decide +kernel
theorem dX4_commonDivisor_34 : decode cX4_commonDivisor 34 = .ok (.iload_n 2, 1) := by decide +kernel
theorem dX4_commonDivisor_35 : decode cX4_commonDivisor 35 = .ok (.ireturn, 1) := by decide +kernel
set_option maxRecDepth 20000 in
theorem ggX4_cellsOn_X1_workingOn : GoodIn wsX4_cellsOn wsX1_workingOn := goodIn_r _ [8, 9, 10, 11, 12, 13, 7, 14, 15, 16, 17, 18, 73, 74, 75, 76, 77, 78, 79, 80] (by decide +kernel) (by decide +kernel)
set_option maxRecDepth 20000 in
theorem gX4_cellsOn_X1_workingOn : GoodIn wsX4_cellsOn (wsV RX4 107 RX1 yX1_workingOn wsX1_workingOn) := goodIn_app (goodIn_of _ (by decide +kernel)) ggX4_cellsOn_X1_workingOn
set_option maxRecDepth 20000 in
theorem ggX4_cellsOn_X3_lookUp : GoodIn wsX4_cellsOn wsX3_lookUp := goodIn_r _ [23, 24, 25, 26, 27, 28, 29, 30, 31, 32, 22, 33, 34, 35, 36, 37, 38, 39, 40, 41, 42, 43, 44, 45, 46, 47, 48, 49, 50, 51, 17, 52, 53, 54, 55, 56, 57, 58, 59, 60, 66, 67, 68, 69, 70, 71, 72, 81, 82, 83, 84, 73, 74, 75, 76, 77, 78, 79, 80] (by decide +kernel) (by decide +kernel)
set_option maxRecDepth 20000 in
theorem gX4_cellsOn_X3_lookUp : GoodIn wsX4_cellsOn (wsV RX4 113 RX3 yX3_lookUp wsX3_lookUp) := goodIn_app (goodIn_of _ (by decide +kernel)) ggX4_cellsOn_X3_lookUp
theorem dX4_cellsOn_0 : decode cX4_cellsOn 0 = .ok (.aload_n 0, 1) := by decide +kernel
theorem dX4_cellsOn_1 : decode cX4_cellsOn 1 = .ok (.getfield 12, 3) := by decide +kernel
theorem dX4_cellsOn_4 : decode cX4_cellsOn 4 = .ok (.iload_n 1, 1) := by decide +kernel
theorem dX4_cellsOn_5 : decode cX4_cellsOn 5 = .ok (.invokevirtual 107, 3) := by decide +kernel
theorem dX4_cellsOn_8 : decode cX4_cellsOn 8 = .ok (.istore_n 2, 1) := by decide +kernel
theorem dX4_cellsOn_9 : decode cX4_cellsOn 9 = .ok (.iload_n 2, 1) := by decide +kernel
theorem dX4_cellsOn_10 : decode cX4_cellsOn 10 = .ok (.ifCond .ne 13, 3) := by decide +kernel
theorem dX4_cellsOn_13 : decode cX4_cellsOn 13 = .ok (.aload_n 0, 1) := by decide +kernel
theorem dX4_cellsOn_14 : decode cX4_cellsOn 14 = .ok (.getfield 27, 3) := by decide +kernel
theorem dX4_cellsOn_17 : decode cX4_cellsOn 17 = .ok (.getfield 223, 3) := by decide +kernel
theorem dX4_cellsOn_20 : decode cX4_cellsOn 20 = .ok (.goto 15, 3) := by decide +kernel
theorem dX4_cellsOn_23 : decode cX4_cellsOn 23 = .ok (.aload_n 0, 1) := by decide +kernel
theorem dX4_cellsOn_24 : decode cX4_cellsOn 24 = .ok (.getfield 27, 3) := by decide +kernel
theorem dX4_cellsOn_27 : decode cX4_cellsOn 27 = .ok (.aload_n 0, 1) := by decide +kernel
theorem dX4_cellsOn_28 : decode cX4_cellsOn 28 = .ok (.getfield 12, 3) := by decide +kernel
theorem dX4_cellsOn_31 : decode cX4_cellsOn 31 = .ok (.iload_n 2, 1) := by decide +kernel
theorem dX4_cellsOn_32 : decode cX4_cellsOn 32 = .ok (.invokevirtual 113, 3) := by decide +kernel
theorem dX4_cellsOn_35 : decode cX4_cellsOn 35 = .ok (.areturn, 1) := by decide +kernel
set_option maxRecDepth 20000 in
theorem ggX4_hasMean_X1_workingOn : GoodIn wsX4_hasMean wsX1_workingOn := goodIn_r _ [6, 7, 8, 9, 10, 11, 5, 12, 13, 14, 15, 16, 32, 33, 34, 35, 36, 37, 38, 39] (by decide +kernel) (by decide +kernel)
set_option maxRecDepth 20000 in
theorem gX4_hasMean_X1_workingOn : GoodIn wsX4_hasMean (wsV RX4 107 RX1 yX1_workingOn wsX1_workingOn) := goodIn_app (goodIn_of _ (by decide +kernel)) ggX4_hasMean_X1_workingOn
set_option maxRecDepth 20000 in
theorem ggX4_hasMean_X1_plotCount : GoodIn wsX4_hasMean wsX1_plotCount := goodIn_r _ [20, 21, 22, 23, 24, 25, 5, 26, 32, 33, 34, 35, 36, 37, 38, 39] (by decide +kernel) (by decide +kernel)
set_option maxRecDepth 20000 in
theorem gX4_hasMean_X1_plotCount : GoodIn wsX4_hasMean (wsV RX4 52 RX1 yX1_plotCount wsX1_plotCount) := goodIn_app (goodIn_of _ (by decide +kernel)) ggX4_hasMean_X1_plotCount
theorem dX4_hasMean_0 : decode cX4_hasMean 0 = .ok (.aload_n 0, 1) := by decide +kernel
theorem dX4_hasMean_1 : decode cX4_hasMean 1 = .ok (.getfield 12, 3) := by decide +kernel
theorem dX4_hasMean_4 : decode cX4_hasMean 4 = .ok (.iload_n 1, 1) := by decide +kernel
theorem dX4_hasMean_5 : decode cX4_hasMean 5 = .ok (.invokevirtual 107, 3) := by decide +kernel
theorem dX4_hasMean_8 : decode cX4_hasMean 8 = .ok (.ifCond .eq 17, 3) := by decide +kernel
theorem dX4_hasMean_11 : decode cX4_hasMean 11 = .ok (.aload_n 0, 1) := by decide +kernel
theorem dX4_hasMean_12 : decode cX4_hasMean 12 = .ok (.getfield 12, 3) := by decide +kernel
theorem dX4_hasMean_15 : decode cX4_hasMean 15 = .ok (.invokevirtual 52, 3) := by decide +kernel
theorem dX4_hasMean_18 : decode cX4_hasMean 18 = .ok (.ifCond .le 7, 3) := by decide +kernel
theorem dX4_hasMean_21 : decode cX4_hasMean 21 = .ok (.iconst 1, 1) := by decide +kernel
theorem dX4_hasMean_22 : decode cX4_hasMean 22 = .ok (.goto 4, 3) := by decide +kernel
theorem dX4_hasMean_25 : decode cX4_hasMean 25 = .ok (.iconst 0, 1) := by decide +kernel
theorem dX4_hasMean_26 : decode cX4_hasMean 26 = .ok (.ireturn, 1) := by decide +kernel
set_option maxRecDepth 20000 in
theorem ggX4_rainOn_X4_cellsOn : GoodIn wsX4_rainOn wsX4_cellsOn := goodIn_r _ [8, 1, 9, 10, 11, 12, 13, 14, 15, 16, 17, 18, 19, 20, 21, 22, 23, 7, 24, 25, 26, 27, 28, 29, 30, 31, 32, 33, 34, 35, 36, 37, 38, 39, 40, 41, 42, 43, 44, 45, 46, 47, 48, 49, 50, 51, 52, 53, 54, 55, 56, 57, 58, 59, 60, 61, 62, 63, 64, 65, 66, 68, 69, 70, 71, 72, 85, 86, 87, 88, 89, 90, 91, 73, 74, 75, 76, 77, 78, 79, 80, 81, 82, 83, 84] (by decide +kernel) (by decide +kernel)
set_option maxRecDepth 20000 in
theorem gX4_rainOn_X4_cellsOn : GoodIn wsX4_rainOn (wsV RX4 122 RX4 yX4_cellsOn wsX4_cellsOn) := goodIn_app (goodIn_of _ (by decide +kernel)) ggX4_rainOn_X4_cellsOn
set_option maxRecDepth 20000 in
theorem ggX4_rainOn_X1_readingOf : GoodIn wsX4_rainOn wsX1_readingOf := goodIn_r _ [21, 22, 73, 74, 75, 76, 77, 78, 79, 80] (by decide +kernel) (by decide +kernel)
set_option maxRecDepth 20000 in
theorem gX4_rainOn_X1_readingOf : GoodIn wsX4_rainOn (wsV RX4 97 RX1 yX1_readingOf wsX1_readingOf) := goodIn_app (goodIn_of _ (by decide +kernel)) ggX4_rainOn_X1_readingOf
theorem dX4_rainOn_0 : decode cX4_rainOn 0 = .ok (.aload_n 0, 1) := by decide +kernel
theorem dX4_rainOn_1 : decode cX4_rainOn 1 = .ok (.iload_n 1, 1) := by decide +kernel
theorem dX4_rainOn_2 : decode cX4_rainOn 2 = .ok (.invokevirtual 122, 3) := by decide +kernel
theorem dX4_rainOn_5 : decode cX4_rainOn 5 = .ok (.astore_n 2, 1) := by decide +kernel
theorem dX4_rainOn_6 : decode cX4_rainOn 6 = .ok (.iconst 0, 1) := by decide +kernel
theorem dX4_rainOn_7 : decode cX4_rainOn 7 = .ok (.istore_n 3, 1) := by decide +kernel
theorem dX4_rainOn_8 : decode cX4_rainOn 8 = .ok (.iconst 0, 1) := by decide +kernel
theorem dX4_rainOn_9 : decode cX4_rainOn 9 = .ok (.istore 4, 2) := by decide +kernel
theorem dX4_rainOn_11 : decode cX4_rainOn 11 = .ok (.iload 4, 2) := by decide +kernel
theorem dX4_rainOn_13 : decode cX4_rainOn 13 = .ok (.aload_n 0, 1) := by decide +kernel
theorem dX4_rainOn_14 : decode cX4_rainOn 14 = .ok (.getfield 12, 3) := by decide +kernel
theorem dX4_rainOn_17 : decode cX4_rainOn 17 = .ok (.getfield 63, 3) := by decide +kernel
theorem dX4_rainOn_20 : decode cX4_rainOn 20 = .ok (.if_icmp .ge 40, 3) := by decide +kernel
theorem dX4_rainOn_23 : decode cX4_rainOn 23 = .ok (.aload_n 2, 1) := by decide +kernel
theorem dX4_rainOn_24 : decode cX4_rainOn 24 = .ok (.getfield 126, 3) := by decide +kernel
theorem dX4_rainOn_27 : decode cX4_rainOn 27 = .ok (.iload 4, 2) := by decide +kernel
theorem dX4_rainOn_29 : decode cX4_rainOn 29 = .ok (.iaload, 1) := by decide +kernel
theorem dX4_rainOn_30 : decode cX4_rainOn 30 = .ok (.ifCond .le 24, 3) := by decide +kernel
theorem dX4_rainOn_33 : decode cX4_rainOn 33 = .ok (.iload_n 3, 1) := by decide +kernel
theorem dX4_rainOn_34 : decode cX4_rainOn 34 = .ok (.aload_n 2, 1) := by decide +kernel
theorem dX4_rainOn_35 : decode cX4_rainOn 35 = .ok (.getfield 126, 3) := by decide +kernel
theorem dX4_rainOn_38 : decode cX4_rainOn 38 = .ok (.iload 4, 2) := by decide +kernel
theorem dX4_rainOn_40 : decode cX4_rainOn 40 = .ok (.iaload, 1) := by decide +kernel
theorem dX4_rainOn_41 : decode cX4_rainOn 41 = .ok (.aload_n 0, 1) := by decide +kernel
theorem dX4_rainOn_42 : decode cX4_rainOn 42 = .ok (.getfield 12, 3) := by decide +kernel
theorem dX4_rainOn_45 : decode cX4_rainOn 45 = .ok (.iload 4, 2) := by decide +kernel
theorem dX4_rainOn_47 : decode cX4_rainOn 47 = .ok (.iload_n 1, 1) := by decide +kernel
theorem dX4_rainOn_48 : decode cX4_rainOn 48 = .ok (.invokevirtual 97, 3) := by decide +kernel
theorem dX4_rainOn_51 : decode cX4_rainOn 51 = .ok (.imul, 1) := by decide +kernel
theorem dX4_rainOn_52 : decode cX4_rainOn 52 = .ok (.iadd, 1) := by decide +kernel
theorem dX4_rainOn_53 : decode cX4_rainOn 53 = .ok (.istore_n 3, 1) := by decide +kernel
theorem dX4_rainOn_54 : decode cX4_rainOn 54 = .ok (.iinc 4 1, 3) := by decide +kernel
theorem dX4_rainOn_57 : decode cX4_rainOn 57 = .ok (.goto (-46), 3) := by decide +kernel
theorem dX4_rainOn_60 : decode cX4_rainOn 60 = .ok (.iload_n 3, 1) := by decide +kernel
theorem dX4_rainOn_61 : decode cX4_rainOn 61 = .ok (.ireturn, 1) := by decide +kernel
set_option maxRecDepth 20000 in
theorem ggX4_rainOfOthers_X1_readingOf : GoodIn wsX4_rainOfOthers wsX1_readingOf := goodIn_r _ [7, 8, 18, 19, 20, 21, 22, 23, 24, 25] (by decide +kernel) (by decide +kernel)
set_option maxRecDepth 20000 in
theorem gX4_rainOfOthers_X1_readingOf : GoodIn wsX4_rainOfOthers (wsV RX4 97 RX1 yX1_readingOf wsX1_readingOf) := goodIn_app (goodIn_of _ (by decide +kernel)) ggX4_rainOfOthers_X1_readingOf
theorem dX4_rainOfOthers_0 : decode cX4_rainOfOthers 0 = .ok (.iconst 0, 1) := by decide +kernel
theorem dX4_rainOfOthers_1 : decode cX4_rainOfOthers 1 = .ok (.istore 5, 2) := by decide +kernel
theorem dX4_rainOfOthers_3 : decode cX4_rainOfOthers 3 = .ok (.iconst 0, 1) := by decide +kernel
theorem dX4_rainOfOthers_4 : decode cX4_rainOfOthers 4 = .ok (.istore 6, 2) := by decide +kernel
theorem dX4_rainOfOthers_6 : decode cX4_rainOfOthers 6 = .ok (.iload 6, 2) := by decide +kernel
theorem dX4_rainOfOthers_8 : decode cX4_rainOfOthers 8 = .ok (.sipush 256, 3) := by decide +kernel
theorem dX4_rainOfOthers_11 : decode cX4_rainOfOthers 11 = .ok (.if_icmp .ge 51, 3) := by decide +kernel
theorem dX4_rainOfOthers_14 : decode cX4_rainOfOthers 14 = .ok (.aload 4, 2) := by decide +kernel
theorem dX4_rainOfOthers_16 : decode cX4_rainOfOthers 16 = .ok (.getfield 227, 3) := by decide +kernel
theorem dX4_rainOfOthers_19 : decode cX4_rainOfOthers 19 = .ok (.iload 6, 2) := by decide +kernel
theorem dX4_rainOfOthers_21 : decode cX4_rainOfOthers 21 = .ok (.iaload, 1) := by decide +kernel
theorem dX4_rainOfOthers_22 : decode cX4_rainOfOthers 22 = .ok (.istore 7, 2) := by decide +kernel
theorem dX4_rainOfOthers_24 : decode cX4_rainOfOthers 24 = .ok (.aload_n 3, 1) := by decide +kernel
theorem dX4_rainOfOthers_25 : decode cX4_rainOfOthers 25 = .ok (.getfield 227, 3) := by decide +kernel
theorem dX4_rainOfOthers_28 : decode cX4_rainOfOthers 28 = .ok (.iload 6, 2) := by decide +kernel
theorem dX4_rainOfOthers_30 : decode cX4_rainOfOthers 30 = .ok (.iaload, 1) := by decide +kernel
theorem dX4_rainOfOthers_31 : decode cX4_rainOfOthers 31 = .ok (.iload_n 2, 1) := by decide +kernel
theorem dX4_rainOfOthers_32 : decode cX4_rainOfOthers 32 = .ok (.if_icmp .ne 24, 3) := by decide +kernel
theorem dX4_rainOfOthers_35 : decode cX4_rainOfOthers 35 = .ok (.iload 7, 2) := by decide +kernel
theorem dX4_rainOfOthers_37 : decode cX4_rainOfOthers 37 = .ok (.iconst (-1), 1) := by decide +kernel
theorem dX4_rainOfOthers_38 : decode cX4_rainOfOthers 38 = .ok (.if_icmp .eq 18, 3) := by decide +kernel
theorem dX4_rainOfOthers_41 : decode cX4_rainOfOthers 41 = .ok (.iload 5, 2) := by decide +kernel
theorem dX4_rainOfOthers_43 : decode cX4_rainOfOthers 43 = .ok (.aload_n 0, 1) := by decide +kernel
theorem dX4_rainOfOthers_44 : decode cX4_rainOfOthers 44 = .ok (.getfield 12, 3) := by decide +kernel
theorem dX4_rainOfOthers_47 : decode cX4_rainOfOthers 47 = .ok (.iload 7, 2) := by decide +kernel
theorem dX4_rainOfOthers_49 : decode cX4_rainOfOthers 49 = .ok (.iload_n 1, 1) := by decide +kernel
theorem dX4_rainOfOthers_50 : decode cX4_rainOfOthers 50 = .ok (.invokevirtual 97, 3) := by decide +kernel
theorem dX4_rainOfOthers_53 : decode cX4_rainOfOthers 53 = .ok (.iadd, 1) := by decide +kernel
theorem dX4_rainOfOthers_54 : decode cX4_rainOfOthers 54 = .ok (.istore 5, 2) := by decide +kernel
theorem dX4_rainOfOthers_56 : decode cX4_rainOfOthers 56 = .ok (.iinc 6 1, 3) := by decide +kernel
theorem dX4_rainOfOthers_59 : decode cX4_rainOfOthers 59 = .ok (.goto (-53), 3) := by decide +kernel
end
section
theorem dX4_rainOfOthers_62 : decode cX4_rainOfOthers 62 = .ok (.iload 5, 2) := by decide +kernel
theorem dX4_rainOfOthers_64 : decode cX4_rainOfOthers 64 = .ok (.ireturn, 1) := by decide +kernel
set_option maxRecDepth 20000 in
theorem ggX4_isDoubted_X1_workingOn : GoodIn wsX4_isDoubted wsX1_workingOn := goodIn_r _ [12, 13, 14, 15, 16, 17, 11, 18, 19, 20, 21, 22, 84, 85, 86, 87, 88, 89, 90, 91] (by decide +kernel) (by decide +kernel)
set_option maxRecDepth 20000 in
theorem gX4_isDoubted_X1_workingOn : GoodIn wsX4_isDoubted (wsV RX4 107 RX1 yX1_workingOn wsX1_workingOn) := goodIn_app (goodIn_of _ (by decide +kernel)) ggX4_isDoubted_X1_workingOn
set_option maxRecDepth 20000 in
theorem ggX4_isDoubted_X4_with : GoodIn wsX4_isDoubted wsX4_with := goodIn_r _ [22] (by decide +kernel) (by decide +kernel)
set_option maxRecDepth 20000 in
theorem gX4_isDoubted_X4_with : GoodIn wsX4_isDoubted (va_wsS RX4 176 yX4_with wsX4_with) := goodIn_app (goodIn_of _ (by decide +kernel)) ggX4_isDoubted_X4_with
set_option maxRecDepth 20000 in
theorem ggX4_isDoubted_X3_lookUp : GoodIn wsX4_isDoubted wsX3_lookUp := goodIn_r _ [28, 29, 30, 31, 32, 33, 34, 35, 36, 37, 27, 38, 39, 40, 41, 42, 43, 44, 45, 46, 47, 48, 49, 50, 51, 52, 53, 54, 55, 56, 21, 57, 58, 59, 60, 61, 62, 63, 64, 65, 92, 93, 94, 95, 96, 97, 98, 80, 81, 82, 83, 84, 85, 86, 87, 88, 89, 90, 91] (by decide +kernel) (by decide +kernel)
set_option maxRecDepth 20000 in
theorem gX4_isDoubted_X3_lookUp : GoodIn wsX4_isDoubted (wsV RX4 113 RX3 yX3_lookUp wsX3_lookUp) := goodIn_app (goodIn_of _ (by decide +kernel)) ggX4_isDoubted_X3_lookUp
set_option maxRecDepth 20000 in
theorem ggX4_isDoubted_X4_without : GoodIn wsX4_isDoubted wsX4_without := goodIn_r _ [68] (by decide +kernel) (by decide +kernel)
set_option maxRecDepth 20000 in
theorem gX4_isDoubted_X4_without : GoodIn wsX4_isDoubted (va_wsS RX4 173 yX4_without wsX4_without) := goodIn_app (goodIn_of _ (by decide +kernel)) ggX4_isDoubted_X4_without
set_option maxRecDepth 20000 in
theorem ggX4_isDoubted_X1_readingOf : GoodIn wsX4_isDoubted wsX1_readingOf := goodIn_r _ [18, 19, 84, 85, 86, 87, 88, 89, 90, 91] (by decide +kernel) (by decide +kernel)
set_option maxRecDepth 20000 in
theorem gX4_isDoubted_X1_readingOf : GoodIn wsX4_isDoubted (wsV RX4 97 RX1 yX1_readingOf wsX1_readingOf) := goodIn_app (goodIn_of _ (by decide +kernel)) ggX4_isDoubted_X1_readingOf
set_option maxRecDepth 20000 in
theorem ggX4_isDoubted_X4_rainOfOthers : GoodIn wsX4_isDoubted wsX4_rainOfOthers := goodIn_r _ [73, 74, 1, 69, 16, 17, 11, 18, 19, 80, 81, 82, 83, 75, 76, 77, 78, 79, 84, 85, 86, 87, 88, 89, 90, 91] (by decide +kernel) (by decide +kernel)
set_option maxRecDepth 20000 in
theorem gX4_isDoubted_X4_rainOfOthers : GoodIn wsX4_isDoubted (wsV RX4 183 RX4 yX4_rainOfOthers wsX4_rainOfOthers) := goodIn_app (goodIn_of _ (by decide +kernel)) ggX4_isDoubted_X4_rainOfOthers
theorem dX4_isDoubted_0 : decode cX4_isDoubted 0 = .ok (.aload_n 0, 1) := by decide +kernel
theorem dX4_isDoubted_1 : decode cX4_isDoubted 1 = .ok (.getfield 12, 3) := by decide +kernel
theorem dX4_isDoubted_4 : decode cX4_isDoubted 4 = .ok (.iload_n 1, 1) := by decide +kernel
theorem dX4_isDoubted_5 : decode cX4_isDoubted 5 = .ok (.invokevirtual 107, 3) := by decide +kernel
theorem dX4_isDoubted_8 : decode cX4_isDoubted 8 = .ok (.istore 4, 2) := by decide +kernel
theorem dX4_isDoubted_10 : decode cX4_isDoubted 10 = .ok (.aload_n 0, 1) := by decide +kernel
theorem dX4_isDoubted_11 : decode cX4_isDoubted 11 = .ok (.getfield 27, 3) := by decide +kernel
theorem dX4_isDoubted_14 : decode cX4_isDoubted 14 = .ok (.aload_n 0, 1) := by decide +kernel
theorem dX4_isDoubted_15 : decode cX4_isDoubted 15 = .ok (.getfield 12, 3) := by decide +kernel
theorem dX4_isDoubted_18 : decode cX4_isDoubted 18 = .ok (.iload 4, 2) := by decide +kernel
theorem dX4_isDoubted_20 : decode cX4_isDoubted 20 = .ok (.iload_n 2, 1) := by decide +kernel
theorem dX4_isDoubted_21 : decode cX4_isDoubted 21 = .ok (.invokestatic 176, 3) := by decide +kernel
theorem dX4_isDoubted_24 : decode cX4_isDoubted 24 = .ok (.invokevirtual 113, 3) := by decide +kernel
theorem dX4_isDoubted_27 : decode cX4_isDoubted 27 = .ok (.astore 5, 2) := by decide +kernel
theorem dX4_isDoubted_29 : decode cX4_isDoubted 29 = .ok (.aload_n 0, 1) := by decide +kernel
theorem dX4_isDoubted_30 : decode cX4_isDoubted 30 = .ok (.getfield 27, 3) := by decide +kernel
theorem dX4_isDoubted_33 : decode cX4_isDoubted 33 = .ok (.aload_n 0, 1) := by decide +kernel
theorem dX4_isDoubted_34 : decode cX4_isDoubted 34 = .ok (.getfield 12, 3) := by decide +kernel
theorem dX4_isDoubted_37 : decode cX4_isDoubted 37 = .ok (.iload 4, 2) := by decide +kernel
theorem dX4_isDoubted_39 : decode cX4_isDoubted 39 = .ok (.iload_n 2, 1) := by decide +kernel
theorem dX4_isDoubted_40 : decode cX4_isDoubted 40 = .ok (.invokestatic 173, 3) := by decide +kernel
theorem dX4_isDoubted_43 : decode cX4_isDoubted 43 = .ok (.invokevirtual 113, 3) := by decide +kernel
theorem dX4_isDoubted_46 : decode cX4_isDoubted 46 = .ok (.astore 6, 2) := by decide +kernel
theorem dX4_isDoubted_48 : decode cX4_isDoubted 48 = .ok (.aload 5, 2) := by decide +kernel
theorem dX4_isDoubted_50 : decode cX4_isDoubted 50 = .ok (.getfield 126, 3) := by decide +kernel
theorem dX4_isDoubted_53 : decode cX4_isDoubted 53 = .ok (.iload_n 2, 1) := by decide +kernel
theorem dX4_isDoubted_54 : decode cX4_isDoubted 54 = .ok (.iaload, 1) := by decide +kernel
theorem dX4_isDoubted_55 : decode cX4_isDoubted 55 = .ok (.istore 7, 2) := by decide +kernel
theorem dX4_isDoubted_57 : decode cX4_isDoubted 57 = .ok (.aload_n 0, 1) := by decide +kernel
theorem dX4_isDoubted_58 : decode cX4_isDoubted 58 = .ok (.getfield 12, 3) := by decide +kernel
theorem dX4_isDoubted_61 : decode cX4_isDoubted 61 = .ok (.iload_n 2, 1) := by decide +kernel
theorem dX4_isDoubted_62 : decode cX4_isDoubted 62 = .ok (.iload_n 1, 1) := by decide +kernel
theorem dX4_isDoubted_63 : decode cX4_isDoubted 63 = .ok (.invokevirtual 97, 3) := by decide +kernel
theorem dX4_isDoubted_66 : decode cX4_isDoubted 66 = .ok (.iload 7, 2) := by decide +kernel
theorem dX4_isDoubted_68 : decode cX4_isDoubted 68 = .ok (.imul, 1) := by decide +kernel
theorem dX4_isDoubted_69 : decode cX4_isDoubted 69 = .ok (.aload_n 0, 1) := by decide +kernel
theorem dX4_isDoubted_70 : decode cX4_isDoubted 70 = .ok (.iload_n 1, 1) := by decide +kernel
theorem dX4_isDoubted_71 : decode cX4_isDoubted 71 = .ok (.iload_n 2, 1) := by decide +kernel
theorem dX4_isDoubted_72 : decode cX4_isDoubted 72 = .ok (.aload 5, 2) := by decide +kernel
theorem dX4_isDoubted_74 : decode cX4_isDoubted 74 = .ok (.aload 6, 2) := by decide +kernel
theorem dX4_isDoubted_76 : decode cX4_isDoubted 76 = .ok (.invokevirtual 183, 3) := by decide +kernel
theorem dX4_isDoubted_79 : decode cX4_isDoubted 79 = .ok (.isub, 1) := by decide +kernel
theorem dX4_isDoubted_80 : decode cX4_isDoubted 80 = .ok (.istore 8, 2) := by decide +kernel
theorem dX4_isDoubted_82 : decode cX4_isDoubted 82 = .ok (.iload 8, 2) := by decide +kernel
theorem dX4_isDoubted_84 : decode cX4_isDoubted 84 = .ok (.invokestatic 230, 3) := by decide +kernel
theorem dX4_isDoubted_87 : decode cX4_isDoubted 87 = .ok (.iload_n 3, 1) := by decide +kernel
theorem dX4_isDoubted_88 : decode cX4_isDoubted 88 = .ok (.iload 7, 2) := by decide +kernel
theorem dX4_isDoubted_90 : decode cX4_isDoubted 90 = .ok (.imul, 1) := by decide +kernel
theorem dX4_isDoubted_91 : decode cX4_isDoubted 91 = .ok (.if_icmp .le 7, 3) := by decide +kernel
theorem dX4_isDoubted_94 : decode cX4_isDoubted 94 = .ok (.iconst 1, 1) := by decide +kernel
theorem dX4_isDoubted_95 : decode cX4_isDoubted 95 = .ok (.goto 4, 3) := by decide +kernel
theorem dX4_isDoubted_98 : decode cX4_isDoubted 98 = .ok (.iconst 0, 1) := by decide +kernel
theorem dX4_isDoubted_99 : decode cX4_isDoubted 99 = .ok (.ireturn, 1) := by decide +kernel
theorem dX5_init_0 : decode cX5_init 0 = .ok (.aload_n 0, 1) := by decide +kernel
theorem dX5_init_1 : decode cX5_init 1 = .ok (.invokespecial 1, 3) := by decide +kernel
theorem dX5_init_4 : decode cX5_init 4 = .ok (.aload_n 0, 1) := by decide +kernel
theorem dX5_init_5 : decode cX5_init 5 = .ok (.bipush 16, 2) := by decide +kernel
theorem dX5_init_7 : decode cX5_init 7 = .ok (.newarray .int, 2) := by decide +kernel
theorem dX5_init_9 : decode cX5_init 9 = .ok (.putfield 7, 3) := by decide +kernel
theorem dX5_init_12 : decode cX5_init 12 = .ok (.aload_n 0, 1) := by decide +kernel
theorem dX5_init_13 : decode cX5_init 13 = .ok (.bipush 16, 2) := by decide +kernel
theorem dX5_init_15 : decode cX5_init 15 = .ok (.newarray .int, 2) := by decide +kernel
theorem dX5_init_17 : decode cX5_init 17 = .ok (.putfield 13, 3) := by decide +kernel
theorem dX5_init_20 : decode cX5_init 20 = .ok (.aload_n 0, 1) := by decide +kernel
theorem dX5_init_21 : decode cX5_init 21 = .ok (.bipush 8, 2) := by decide +kernel
theorem dX5_init_23 : decode cX5_init 23 = .ok (.newarray .int, 2) := by decide +kernel
theorem dX5_init_25 : decode cX5_init 25 = .ok (.putfield 16, 3) := by decide +kernel
theorem dX5_init_28 : decode cX5_init 28 = .ok (.aload_n 0, 1) := by decide +kernel
theorem dX5_init_29 : decode cX5_init 29 = .ok (.bipush 8, 2) := by decide +kernel
theorem dX5_init_31 : decode cX5_init 31 = .ok (.newarray .int, 2) := by decide +kernel
theorem dX5_init_33 : decode cX5_init 33 = .ok (.putfield 19, 3) := by decide +kernel
theorem dX5_init_36 : decode cX5_init 36 = .ok (.aload_n 0, 1) := by decide +kernel
theorem dX5_init_37 : decode cX5_init 37 = .ok (.bipush 8, 2) := by decide +kernel
theorem dX5_init_39 : decode cX5_init 39 = .ok (.newarray .int, 2) := by decide +kernel
theorem dX5_init_41 : decode cX5_init 41 = .ok (.putfield 22, 3) := by decide +kernel
theorem dX5_init_44 : decode cX5_init 44 = .ok (.aload_n 0, 1) := by decide +kernel
theorem dX5_init_45 : decode cX5_init 45 = .ok (.sipush 512, 3) := by decide +kernel
theorem dX5_init_48 : decode cX5_init 48 = .ok (.newarray .boolean, 2) := by decide +kernel
theorem dX5_init_50 : decode cX5_init 50 = .ok (.putfield 25, 3) := by decide +kernel
theorem dX5_init_53 : decode cX5_init 53 = .ok (.aload_n 0, 1) := by decide +kernel
theorem dX5_init_54 : decode cX5_init 54 = .ok (.sipush 512, 3) := by decide +kernel
theorem dX5_init_57 : decode cX5_init 57 = .ok (.newarray .int, 2) := by decide +kernel
theorem dX5_init_59 : decode cX5_init 59 = .ok (.putfield 29, 3) := by decide +kernel
theorem dX5_init_62 : decode cX5_init 62 = .ok (.aload_n 0, 1) := by decide +kernel
theorem dX5_init_63 : decode cX5_init 63 = .ok (.bipush 6, 2) := by decide +kernel
theorem dX5_init_65 : decode cX5_init 65 = .ok (.newarray .int, 2) := by decide +kernel
theorem dX5_init_67 : decode cX5_init 67 = .ok (.putfield 32, 3) := by decide +kernel
theorem dX5_init_70 : decode cX5_init 70 = .ok (.aload_n 0, 1) := by decide +kernel
theorem dX5_init_71 : decode cX5_init 71 = .ok (.iconst 2, 1) := by decide +kernel
theorem dX5_init_72 : decode cX5_init 72 = .ok (.newarray .boolean, 2) := by decide +kernel
theorem dX5_init_74 : decode cX5_init 74 = .ok (.putfield 35, 3) := by decide +kernel
theorem dX5_init_77 : decode cX5_init 77 = .ok (.aload_n 0, 1) := by decide +kernel
theorem dX5_init_78 : decode cX5_init 78 = .ok (.bipush 64, 2) := by decide +kernel
theorem dX5_init_80 : decode cX5_init 80 = .ok (.newarray .int, 2) := by decide +kernel
theorem dX5_init_82 : decode cX5_init 82 = .ok (.putfield 38, 3) := by decide +kernel
theorem dX5_init_85 : decode cX5_init 85 = .ok (.aload_n 0, 1) := by decide +kernel
theorem dX5_init_86 : decode cX5_init 86 = .ok (.iconst 2, 1) := by decide +kernel
theorem dX5_init_87 : decode cX5_init 87 = .ok (.newarray .int, 2) := by decide +kernel
theorem dX5_init_89 : decode cX5_init 89 = .ok (.putfield 41, 3) := by decide +kernel
theorem dX5_init_92 : decode cX5_init 92 = .ok (.aload_n 0, 1) := by decide +kernel
theorem dX5_init_93 : decode cX5_init 93 = .ok (.bipush 48, 2) := by decide +kernel
theorem dX5_init_95 : decode cX5_init 95 = .ok (.newarray .int, 2) := by decide +kernel
theorem dX5_init_97 : decode cX5_init 97 = .ok (.putfield 44, 3) := by decide +kernel
theorem dX5_init_100 : decode cX5_init 100 = .ok (.aload_n 0, 1) := by decide +kernel
theorem dX5_init_101 : decode cX5_init 101 = .ok (.sipush 1024, 3) := by decide +kernel
theorem dX5_init_104 : decode cX5_init 104 = .ok (.newarray .boolean, 2) := by decide +kernel
theorem dX5_init_106 : decode cX5_init 106 = .ok (.putfield 47, 3) := by decide +kernel
theorem dX5_init_109 : decode cX5_init 109 = .ok (.aload_n 0, 1) := by decide +kernel
theorem dX5_init_110 : decode cX5_init 110 = .ok (.sipush 1024, 3) := by decide +kernel
theorem dX5_init_113 : decode cX5_init 113 = .ok (.newarray .int, 2) := by decide +kernel
theorem dX5_init_115 : decode cX5_init 115 = .ok (.putfield 50, 3) := by decide +kernel
theorem dX5_init_118 : decode cX5_init 118 = .ok (.iconst 0, 1) := by decide +kernel
theorem dX5_init_119 : decode cX5_init 119 = .ok (.istore_n 1, 1) := by decide +kernel
theorem dX5_init_120 : decode cX5_init 120 = .ok (.iload_n 1, 1) := by decide +kernel
theorem dX5_init_121 : decode cX5_init 121 = .ok (.bipush 16, 2) := by decide +kernel
theorem dX5_init_123 : decode cX5_init 123 = .ok (.if_icmp .ge 17, 3) := by decide +kernel
theorem dX5_init_126 : decode cX5_init 126 = .ok (.aload_n 0, 1) := by decide +kernel
theorem dX5_init_127 : decode cX5_init 127 = .ok (.getfield 13, 3) := by decide +kernel
theorem dX5_init_130 : decode cX5_init 130 = .ok (.iload_n 1, 1) := by decide +kernel
theorem dX5_init_131 : decode cX5_init 131 = .ok (.bipush 15, 2) := by decide +kernel
theorem dX5_init_133 : decode cX5_init 133 = .ok (.iastore, 1) := by decide +kernel
theorem dX5_init_134 : decode cX5_init 134 = .ok (.iinc 1 1, 3) := by decide +kernel
theorem dX5_init_137 : decode cX5_init 137 = .ok (.goto (-17), 3) := by decide +kernel
theorem dX5_init_140 : decode cX5_init 140 = .ok (.iconst 0, 1) := by decide +kernel
theorem dX5_init_141 : decode cX5_init 141 = .ok (.istore_n 1, 1) := by decide +kernel
theorem dX5_init_142 : decode cX5_init 142 = .ok (.iload_n 1, 1) := by decide +kernel
theorem dX5_init_143 : decode cX5_init 143 = .ok (.sipush 512, 3) := by decide +kernel
theorem dX5_init_146 : decode cX5_init 146 = .ok (.if_icmp .ge 17, 3) := by decide +kernel
theorem dX5_init_149 : decode cX5_init 149 = .ok (.aload_n 0, 1) := by decide +kernel
theorem dX5_init_150 : decode cX5_init 150 = .ok (.getfield 29, 3) := by decide +kernel
theorem dX5_init_153 : decode cX5_init 153 = .ok (.iload_n 1, 1) := by decide +kernel
theorem dX5_init_154 : decode cX5_init 154 = .ok (.bipush (-6), 2) := by decide +kernel
theorem dX5_init_156 : decode cX5_init 156 = .ok (.iastore, 1) := by decide +kernel
theorem dX5_init_157 : decode cX5_init 157 = .ok (.iinc 1 1, 3) := by decide +kernel
theorem dX5_init_160 : decode cX5_init 160 = .ok (.goto (-18), 3) := by decide +kernel
theorem dX5_init_163 : decode cX5_init 163 = .ok (.return_, 1) := by decide +kernel
theorem dX5_in_0 : decode cX5_in 0 = .ok (.iload_n 0, 1) := by decide +kernel
theorem dX5_in_1 : decode cX5_in 1 = .ok (.iload_n 1, 1) := by decide +kernel
theorem dX5_in_2 : decode cX5_in 2 = .ok (.if_icmp .lt 12, 3) := by decide +kernel
theorem dX5_in_5 : decode cX5_in 5 = .ok (.iload_n 0, 1) := by decide +kernel
theorem dX5_in_6 : decode cX5_in 6 = .ok (.iload_n 2, 1) := by decide +kernel
theorem dX5_in_7 : decode cX5_in 7 = .ok (.if_icmp .gt 7, 3) := by decide +kernel
theorem dX5_in_10 : decode cX5_in 10 = .ok (.iconst 1, 1) := by decide +kernel
theorem dX5_in_11 : decode cX5_in 11 = .ok (.goto 4, 3) := by decide +kernel
theorem dX5_in_14 : decode cX5_in 14 = .ok (.iconst 0, 1) := by decide +kernel
theorem dX5_in_15 : decode cX5_in 15 = .ok (.ireturn, 1) := by decide +kernel
theorem dX5_square_0 : decode cX5_square 0 = .ok (.iload_n 0, 1) := by decide +kernel
theorem dX5_square_1 : decode cX5_square 1 = .ok (.iload_n 0, 1) := by decide +kernel
theorem dX5_square_2 : decode cX5_square 2 = .ok (.imul, 1) := by decide +kernel
theorem dX5_square_3 : decode cX5_square 3 = .ok (.ireturn, 1) := by decide +kernel
set_option maxRecDepth 20000 in
theorem ggX5_isGauge_X5_in : GoodIn wsX5_isGauge wsX5_in := goodIn_r _ [5] (by decide +kernel) (by decide +kernel)
set_option maxRecDepth 20000 in
theorem gX5_isGauge_X5_in : GoodIn wsX5_isGauge (va_wsS RX5 57 yX5_in wsX5_in) := goodIn_app (goodIn_of _ (by decide +kernel)) ggX5_isGauge_X5_in
theorem dX5_isGauge_0 : decode cX5_isGauge 0 = .ok (.iload_n 1, 1) := by decide +kernel
theorem dX5_isGauge_1 : decode cX5_isGauge 1 = .ok (.iconst 0, 1) := by decide +kernel
theorem dX5_isGauge_2 : decode cX5_isGauge 2 = .ok (.aload_n 0, 1) := by decide +kernel
theorem dX5_isGauge_3 : decode cX5_isGauge 3 = .ok (.getfield 53, 3) := by decide +kernel
theorem dX5_isGauge_6 : decode cX5_isGauge 6 = .ok (.iconst 1, 1) := by decide +kernel
theorem dX5_isGauge_7 : decode cX5_isGauge 7 = .ok (.isub, 1) := by decide +kernel
theorem dX5_isGauge_8 : decode cX5_isGauge 8 = .ok (.invokestatic 57, 3) := by decide +kernel
theorem dX5_isGauge_11 : decode cX5_isGauge 11 = .ok (.ireturn, 1) := by decide +kernel
set_option maxRecDepth 20000 in
theorem ggX5_isDay_X5_in : GoodIn wsX5_isDay wsX5_in := goodIn_r _ [4] (by decide +kernel) (by decide +kernel)
set_option maxRecDepth 20000 in
theorem gX5_isDay_X5_in : GoodIn wsX5_isDay (va_wsS RX5 57 yX5_in wsX5_in) := goodIn_app (goodIn_of _ (by decide +kernel)) ggX5_isDay_X5_in
theorem dX5_isDay_0 : decode cX5_isDay 0 = .ok (.iload_n 0, 1) := by decide +kernel
theorem dX5_isDay_1 : decode cX5_isDay 1 = .ok (.iconst 0, 1) := by decide +kernel
theorem dX5_isDay_2 : decode cX5_isDay 2 = .ok (.bipush 63, 2) := by decide +kernel
theorem dX5_isDay_4 : decode cX5_isDay 4 = .ok (.invokestatic 57, 3) := by decide +kernel
theorem dX5_isDay_7 : decode cX5_isDay 7 = .ok (.ireturn, 1) := by decide +kernel
set_option maxRecDepth 20000 in
theorem ggX5_isPlot_X5_in : GoodIn wsX5_isPlot wsX5_in := goodIn_r _ [6] (by decide +kernel) (by decide +kernel)
set_option maxRecDepth 20000 in
theorem gX5_isPlot_X5_in : GoodIn wsX5_isPlot (va_wsS RX5 57 yX5_in wsX5_in) := goodIn_app (goodIn_of _ (by decide +kernel)) ggX5_isPlot_X5_in
theorem dX5_isPlot_0 : decode cX5_isPlot 0 = .ok (.iload_n 2, 1) := by decide +kernel
theorem dX5_isPlot_1 : decode cX5_isPlot 1 = .ok (.iconst 0, 1) := by decide +kernel
theorem dX5_isPlot_2 : decode cX5_isPlot 2 = .ok (.bipush 15, 2) := by decide +kernel
theorem dX5_isPlot_4 : decode cX5_isPlot 4 = .ok (.invokestatic 57, 3) := by decide +kernel
theorem dX5_isPlot_7 : decode cX5_isPlot 7 = .ok (.ifCond .eq 26, 3) := by decide +kernel
theorem dX5_isPlot_10 : decode cX5_isPlot 10 = .ok (.iload_n 1, 1) := by decide +kernel
theorem dX5_isPlot_11 : decode cX5_isPlot 11 = .ok (.aload_n 0, 1) := by decide +kernel
theorem dX5_isPlot_12 : decode cX5_isPlot 12 = .ok (.getfield 7, 3) := by decide +kernel
theorem dX5_isPlot_15 : decode cX5_isPlot 15 = .ok (.iload_n 2, 1) := by decide +kernel
theorem dX5_isPlot_16 : decode cX5_isPlot 16 = .ok (.iaload, 1) := by decide +kernel
theorem dX5_isPlot_17 : decode cX5_isPlot 17 = .ok (.aload_n 0, 1) := by decide +kernel
theorem dX5_isPlot_18 : decode cX5_isPlot 18 = .ok (.getfield 13, 3) := by decide +kernel
theorem dX5_isPlot_21 : decode cX5_isPlot 21 = .ok (.iload_n 2, 1) := by decide +kernel
theorem dX5_isPlot_22 : decode cX5_isPlot 22 = .ok (.iaload, 1) := by decide +kernel
theorem dX5_isPlot_23 : decode cX5_isPlot 23 = .ok (.invokestatic 57, 3) := by decide +kernel
theorem dX5_isPlot_26 : decode cX5_isPlot 26 = .ok (.ifCond .eq 7, 3) := by decide +kernel
theorem dX5_isPlot_29 : decode cX5_isPlot 29 = .ok (.iconst 1, 1) := by decide +kernel
theorem dX5_isPlot_30 : decode cX5_isPlot 30 = .ok (.goto 4, 3) := by decide +kernel
theorem dX5_isPlot_33 : decode cX5_isPlot 33 = .ok (.iconst 0, 1) := by decide +kernel
theorem dX5_isPlot_34 : decode cX5_isPlot 34 = .ok (.ireturn, 1) := by decide +kernel
theorem dX5_plots_0 : decode cX5_plots 0 = .ok (.iconst 0, 1) := by decide +kernel
theorem dX5_plots_1 : decode cX5_plots 1 = .ok (.istore_n 1, 1) := by decide +kernel
theorem dX5_plots_2 : decode cX5_plots 2 = .ok (.iconst 0, 1) := by decide +kernel
theorem dX5_plots_3 : decode cX5_plots 3 = .ok (.istore_n 2, 1) := by decide +kernel
theorem dX5_plots_4 : decode cX5_plots 4 = .ok (.iload_n 2, 1) := by decide +kernel
theorem dX5_plots_5 : decode cX5_plots 5 = .ok (.bipush 16, 2) := by decide +kernel
theorem dX5_plots_7 : decode cX5_plots 7 = .ok (.if_icmp .ge 46, 3) := by decide +kernel
theorem dX5_plots_10 : decode cX5_plots 10 = .ok (.iload_n 1, 1) := by decide +kernel
theorem dX5_plots_11 : decode cX5_plots 11 = .ok (.aload_n 0, 1) := by decide +kernel
theorem dX5_plots_12 : decode cX5_plots 12 = .ok (.getfield 7, 3) := by decide +kernel
theorem dX5_plots_15 : decode cX5_plots 15 = .ok (.iload_n 2, 1) := by decide +kernel
theorem dX5_plots_16 : decode cX5_plots 16 = .ok (.iaload, 1) := by decide +kernel
theorem dX5_plots_17 : decode cX5_plots 17 = .ok (.aload_n 0, 1) := by decide +kernel
theorem dX5_plots_18 : decode cX5_plots 18 = .ok (.getfield 13, 3) := by decide +kernel
theorem dX5_plots_21 : decode cX5_plots 21 = .ok (.iload_n 2, 1) := by decide +kernel
theorem dX5_plots_22 : decode cX5_plots 22 = .ok (.iaload, 1) := by decide +kernel
theorem dX5_plots_23 : decode cX5_plots 23 = .ok (.if_icmp .gt 21, 3) := by decide +kernel
theorem dX5_plots_26 : decode cX5_plots 26 = .ok (.aload_n 0, 1) := by decide +kernel
theorem dX5_plots_27 : decode cX5_plots 27 = .ok (.getfield 13, 3) := by decide +kernel
theorem dX5_plots_30 : decode cX5_plots 30 = .ok (.iload_n 2, 1) := by decide +kernel
theorem dX5_plots_31 : decode cX5_plots 31 = .ok (.iaload, 1) := by decide +kernel
theorem dX5_plots_32 : decode cX5_plots 32 = .ok (.aload_n 0, 1) := by decide +kernel
theorem dX5_plots_33 : decode cX5_plots 33 = .ok (.getfield 7, 3) := by decide +kernel
theorem dX5_plots_36 : decode cX5_plots 36 = .ok (.iload_n 2, 1) := by decide +kernel
theorem dX5_plots_37 : decode cX5_plots 37 = .ok (.iaload, 1) := by decide +kernel
theorem dX5_plots_38 : decode cX5_plots 38 = .ok (.isub, 1) := by decide +kernel
theorem dX5_plots_39 : decode cX5_plots 39 = .ok (.iconst 1, 1) := by decide +kernel
theorem dX5_plots_40 : decode cX5_plots 40 = .ok (.iadd, 1) := by decide +kernel
theorem dX5_plots_41 : decode cX5_plots 41 = .ok (.goto 4, 3) := by decide +kernel
theorem dX5_plots_44 : decode cX5_plots 44 = .ok (.iconst 0, 1) := by decide +kernel
theorem dX5_plots_45 : decode cX5_plots 45 = .ok (.iadd, 1) := by decide +kernel
theorem dX5_plots_46 : decode cX5_plots 46 = .ok (.istore_n 1, 1) := by decide +kernel
theorem dX5_plots_47 : decode cX5_plots 47 = .ok (.iinc 2 1, 3) := by decide +kernel
theorem dX5_plots_50 : decode cX5_plots 50 = .ok (.goto (-46), 3) := by decide +kernel
theorem dX5_plots_53 : decode cX5_plots 53 = .ok (.iload_n 1, 1) := by decide +kernel
theorem dX5_plots_54 : decode cX5_plots 54 = .ok (.ireturn, 1) := by decide +kernel
theorem dX5_has_0 : decode cX5_has 0 = .ok (.iload_n 0, 1) := by decide +kernel
theorem dX5_has_1 : decode cX5_has 1 = .ok (.iload_n 1, 1) := by decide +kernel
theorem dX5_has_2 : decode cX5_has 2 = .ok (.ishr, 1) := by decide +kernel
theorem dX5_has_3 : decode cX5_has 3 = .ok (.iconst 1, 1) := by decide +kernel
theorem dX5_has_4 : decode cX5_has 4 = .ok (.iand, 1) := by decide +kernel
theorem dX5_has_5 : decode cX5_has 5 = .ok (.iconst 1, 1) := by decide +kernel
theorem dX5_has_6 : decode cX5_has 6 = .ok (.if_icmp .ne 7, 3) := by decide +kernel
theorem dX5_has_9 : decode cX5_has 9 = .ok (.iconst 1, 1) := by decide +kernel
theorem dX5_has_10 : decode cX5_has 10 = .ok (.goto 4, 3) := by decide +kernel
theorem dX5_has_13 : decode cX5_has 13 = .ok (.iconst 0, 1) := by decide +kernel
theorem dX5_has_14 : decode cX5_has 14 = .ok (.ireturn, 1) := by decide +kernel
set_option maxRecDepth 20000 in
theorem ggX5_row_X5_in : GoodIn wsX5_row wsX5_in := goodIn_r _ [7] (by decide +kernel) (by decide +kernel)
set_option maxRecDepth 20000 in
theorem gX5_row_X5_in : GoodIn wsX5_row (va_wsS RX5 57 yX5_in wsX5_in) := goodIn_app (goodIn_of _ (by decide +kernel)) ggX5_row_X5_in
set_option maxRecDepth 20000 in
theorem ggX5_row_X5_plots : GoodIn wsX5_row wsX5_plots := goodIn_r _ [11, 1, 2, 12, 13, 14, 15, 16, 17, 18, 19, 20, 21, 22, 23, 24, 25, 26, 27, 28, 29, 30] (by decide +kernel) (by decide +kernel)
set_option maxRecDepth 20000 in
theorem gX5_row_X5_plots : GoodIn wsX5_row (wsV RX5 64 RX5 yX5_plots wsX5_plots) := goodIn_app (goodIn_of _ (by decide +kernel)) ggX5_row_X5_plots
theorem dX5_row_0 : decode cX5_row 0 = .ok (.iload_n 1, 1) := by decide +kernel
theorem dX5_row_1 : decode cX5_row 1 = .ok (.iconst 0, 1) := by decide +kernel
theorem dX5_row_2 : decode cX5_row 2 = .ok (.bipush 15, 2) := by decide +kernel
theorem dX5_row_4 : decode cX5_row 4 = .ok (.invokestatic 57, 3) := by decide +kernel
theorem dX5_row_7 : decode cX5_row 7 = .ok (.ifCond .eq 23, 3) := by decide +kernel
theorem dX5_row_10 : decode cX5_row 10 = .ok (.iload_n 2, 1) := by decide +kernel
theorem dX5_row_11 : decode cX5_row 11 = .ok (.iconst 0, 1) := by decide +kernel
theorem dX5_row_12 : decode cX5_row 12 = .ok (.bipush 15, 2) := by decide +kernel
theorem dX5_row_14 : decode cX5_row 14 = .ok (.invokestatic 57, 3) := by decide +kernel
theorem dX5_row_17 : decode cX5_row 17 = .ok (.ifCond .eq 13, 3) := by decide +kernel
theorem dX5_row_20 : decode cX5_row 20 = .ok (.iload_n 3, 1) := by decide +kernel
theorem dX5_row_21 : decode cX5_row 21 = .ok (.iconst 0, 1) := by decide +kernel
theorem dX5_row_22 : decode cX5_row 22 = .ok (.bipush 15, 2) := by decide +kernel
theorem dX5_row_24 : decode cX5_row 24 = .ok (.invokestatic 57, 3) := by decide +kernel
theorem dX5_row_27 : decode cX5_row 27 = .ok (.ifCond .ne 6, 3) := by decide +kernel
theorem dX5_row_30 : decode cX5_row 30 = .ok (.bipush (-2), 2) := by decide +kernel
theorem dX5_row_32 : decode cX5_row 32 = .ok (.ireturn, 1) := by decide +kernel
theorem dX5_row_33 : decode cX5_row 33 = .ok (.aload_n 0, 1) := by decide +kernel
theorem dX5_row_34 : decode cX5_row 34 = .ok (.getfield 7, 3) := by decide +kernel
theorem dX5_row_37 : decode cX5_row 37 = .ok (.iload_n 1, 1) := by decide +kernel
theorem dX5_row_38 : decode cX5_row 38 = .ok (.iload_n 2, 1) := by decide +kernel
theorem dX5_row_39 : decode cX5_row 39 = .ok (.iastore, 1) := by decide +kernel
theorem dX5_row_40 : decode cX5_row 40 = .ok (.aload_n 0, 1) := by decide +kernel
theorem dX5_row_41 : decode cX5_row 41 = .ok (.getfield 13, 3) := by decide +kernel
theorem dX5_row_44 : decode cX5_row 44 = .ok (.iload_n 1, 1) := by decide +kernel
theorem dX5_row_45 : decode cX5_row 45 = .ok (.iload_n 3, 1) := by decide +kernel
theorem dX5_row_46 : decode cX5_row 46 = .ok (.iastore, 1) := by decide +kernel
theorem dX5_row_47 : decode cX5_row 47 = .ok (.aload_n 0, 1) := by decide +kernel
theorem dX5_row_48 : decode cX5_row 48 = .ok (.iconst 0, 1) := by decide +kernel
theorem dX5_row_49 : decode cX5_row 49 = .ok (.putfield 61, 3) := by decide +kernel
theorem dX5_row_52 : decode cX5_row 52 = .ok (.aload_n 0, 1) := by decide +kernel
theorem dX5_row_53 : decode cX5_row 53 = .ok (.invokevirtual 64, 3) := by decide +kernel
theorem dX5_row_56 : decode cX5_row 56 = .ok (.ireturn, 1) := by decide +kernel
set_option maxRecDepth 20000 in
theorem ggX5_isPlace_X5_in : GoodIn wsX5_isPlace wsX5_in := goodIn_r _ [4] (by decide +kernel) (by decide +kernel)
set_option maxRecDepth 20000 in
theorem gX5_isPlace_X5_in : GoodIn wsX5_isPlace (va_wsS RX5 57 yX5_in wsX5_in) := goodIn_app (goodIn_of _ (by decide +kernel)) ggX5_isPlace_X5_in
theorem dX5_isPlace_0 : decode cX5_isPlace 0 = .ok (.iload_n 0, 1) := by decide +kernel
theorem dX5_isPlace_1 : decode cX5_isPlace 1 = .ok (.bipush (-20), 2) := by decide +kernel
theorem dX5_isPlace_3 : decode cX5_isPlace 3 = .ok (.bipush 35, 2) := by decide +kernel
theorem dX5_isPlace_5 : decode cX5_isPlace 5 = .ok (.invokestatic 57, 3) := by decide +kernel
theorem dX5_isPlace_8 : decode cX5_isPlace 8 = .ok (.ifCond .eq 18, 3) := by decide +kernel
theorem dX5_isPlace_11 : decode cX5_isPlace 11 = .ok (.iload_n 1, 1) := by decide +kernel
theorem dX5_isPlace_12 : decode cX5_isPlace 12 = .ok (.bipush (-20), 2) := by decide +kernel
theorem dX5_isPlace_14 : decode cX5_isPlace 14 = .ok (.bipush 35, 2) := by decide +kernel
theorem dX5_isPlace_16 : decode cX5_isPlace 16 = .ok (.invokestatic 57, 3) := by decide +kernel
theorem dX5_isPlace_19 : decode cX5_isPlace 19 = .ok (.ifCond .eq 7, 3) := by decide +kernel
theorem dX5_isPlace_22 : decode cX5_isPlace 22 = .ok (.iconst 1, 1) := by decide +kernel
theorem dX5_isPlace_23 : decode cX5_isPlace 23 = .ok (.goto 4, 3) := by decide +kernel
theorem dX5_isPlace_26 : decode cX5_isPlace 26 = .ok (.iconst 0, 1) := by decide +kernel
theorem dX5_isPlace_27 : decode cX5_isPlace 27 = .ok (.ireturn, 1) := by decide +kernel
theorem dX5_gaugeAt_0 : decode cX5_gaugeAt 0 = .ok (.bipush (-6), 2) := by decide +kernel
theorem dX5_gaugeAt_2 : decode cX5_gaugeAt 2 = .ok (.istore_n 3, 1) := by decide +kernel
theorem dX5_gaugeAt_3 : decode cX5_gaugeAt 3 = .ok (.iconst 0, 1) := by decide +kernel
theorem dX5_gaugeAt_4 : decode cX5_gaugeAt 4 = .ok (.istore 4, 2) := by decide +kernel
theorem dX5_gaugeAt_6 : decode cX5_gaugeAt 6 = .ok (.iload 4, 2) := by decide +kernel
theorem dX5_gaugeAt_8 : decode cX5_gaugeAt 8 = .ok (.aload_n 0, 1) := by decide +kernel
theorem dX5_gaugeAt_9 : decode cX5_gaugeAt 9 = .ok (.getfield 53, 3) := by decide +kernel
theorem dX5_gaugeAt_12 : decode cX5_gaugeAt 12 = .ok (.if_icmp .ge 38, 3) := by decide +kernel
theorem dX5_gaugeAt_15 : decode cX5_gaugeAt 15 = .ok (.aload_n 0, 1) := by decide +kernel
theorem dX5_gaugeAt_16 : decode cX5_gaugeAt 16 = .ok (.getfield 16, 3) := by decide +kernel
theorem dX5_gaugeAt_19 : decode cX5_gaugeAt 19 = .ok (.iload 4, 2) := by decide +kernel
theorem dX5_gaugeAt_21 : decode cX5_gaugeAt 21 = .ok (.iaload, 1) := by decide +kernel
theorem dX5_gaugeAt_22 : decode cX5_gaugeAt 22 = .ok (.iload_n 1, 1) := by decide +kernel
theorem dX5_gaugeAt_23 : decode cX5_gaugeAt 23 = .ok (.if_icmp .ne 19, 3) := by decide +kernel
theorem dX5_gaugeAt_26 : decode cX5_gaugeAt 26 = .ok (.aload_n 0, 1) := by decide +kernel
theorem dX5_gaugeAt_27 : decode cX5_gaugeAt 27 = .ok (.getfield 19, 3) := by decide +kernel
theorem dX5_gaugeAt_30 : decode cX5_gaugeAt 30 = .ok (.iload 4, 2) := by decide +kernel
theorem dX5_gaugeAt_32 : decode cX5_gaugeAt 32 = .ok (.iaload, 1) := by decide +kernel
theorem dX5_gaugeAt_33 : decode cX5_gaugeAt 33 = .ok (.iload_n 2, 1) := by decide +kernel
theorem dX5_gaugeAt_34 : decode cX5_gaugeAt 34 = .ok (.if_icmp .ne 8, 3) := by decide +kernel
theorem dX5_gaugeAt_37 : decode cX5_gaugeAt 37 = .ok (.iload 4, 2) := by decide +kernel
theorem dX5_gaugeAt_39 : decode cX5_gaugeAt 39 = .ok (.goto 4, 3) := by decide +kernel
theorem dX5_gaugeAt_42 : decode cX5_gaugeAt 42 = .ok (.iload_n 3, 1) := by decide +kernel
theorem dX5_gaugeAt_43 : decode cX5_gaugeAt 43 = .ok (.istore_n 3, 1) := by decide +kernel
theorem dX5_gaugeAt_44 : decode cX5_gaugeAt 44 = .ok (.iinc 4 1, 3) := by decide +kernel
theorem dX5_gaugeAt_47 : decode cX5_gaugeAt 47 = .ok (.goto (-41), 3) := by decide +kernel
theorem dX5_gaugeAt_50 : decode cX5_gaugeAt 50 = .ok (.iload_n 3, 1) := by decide +kernel
theorem dX5_gaugeAt_51 : decode cX5_gaugeAt 51 = .ok (.ireturn, 1) := by decide +kernel
set_option maxRecDepth 20000 in
theorem ggX5_gauge_X5_isPlace : GoodIn wsX5_gauge wsX5_isPlace := goodIn_r _ [11, 12, 13, 10, 14] (by decide +kernel) (by decide +kernel)
set_option maxRecDepth 20000 in
theorem gX5_gauge_X5_isPlace : GoodIn wsX5_gauge (va_wsS RX5 68 yX5_isPlace wsX5_isPlace) := goodIn_app (goodIn_of _ (by decide +kernel)) ggX5_gauge_X5_isPlace
set_option maxRecDepth 20000 in
theorem ggX5_gauge_X5_gaugeAt : GoodIn wsX5_gauge wsX5_gaugeAt := goodIn_r _ [18, 1, 2, 3, 19, 20, 21, 22, 23, 24, 25, 26, 27, 28, 29, 30, 31, 32, 33, 34, 35, 36, 37] (by decide +kernel) (by decide +kernel)
set_option maxRecDepth 20000 in
theorem gX5_gauge_X5_gaugeAt : GoodIn wsX5_gauge (wsV RX5 72 RX5 yX5_gaugeAt wsX5_gaugeAt) := goodIn_app (goodIn_of _ (by decide +kernel)) ggX5_gauge_X5_gaugeAt
theorem dX5_gauge_0 : decode cX5_gauge 0 = .ok (.iload_n 1, 1) := by decide +kernel
theorem dX5_gauge_1 : decode cX5_gauge 1 = .ok (.iload_n 2, 1) := by decide +kernel
theorem dX5_gauge_2 : decode cX5_gauge 2 = .ok (.invokestatic 68, 3) := by decide +kernel
theorem dX5_gauge_5 : decode cX5_gauge 5 = .ok (.ifCond .ne 6, 3) := by decide +kernel
theorem dX5_gauge_8 : decode cX5_gauge 8 = .ok (.bipush (-2), 2) := by decide +kernel
theorem dX5_gauge_10 : decode cX5_gauge 10 = .ok (.ireturn, 1) := by decide +kernel
theorem dX5_gauge_11 : decode cX5_gauge 11 = .ok (.aload_n 0, 1) := by decide +kernel
theorem dX5_gauge_12 : decode cX5_gauge 12 = .ok (.iload_n 1, 1) := by decide +kernel
theorem dX5_gauge_13 : decode cX5_gauge 13 = .ok (.iload_n 2, 1) := by decide +kernel
theorem dX5_gauge_14 : decode cX5_gauge 14 = .ok (.invokevirtual 72, 3) := by decide +kernel
theorem dX5_gauge_17 : decode cX5_gauge 17 = .ok (.ifCond .lt 6, 3) := by decide +kernel
theorem dX5_gauge_20 : decode cX5_gauge 20 = .ok (.bipush (-5), 2) := by decide +kernel
theorem dX5_gauge_22 : decode cX5_gauge 22 = .ok (.ireturn, 1) := by decide +kernel
theorem dX5_gauge_23 : decode cX5_gauge 23 = .ok (.aload_n 0, 1) := by decide +kernel
theorem dX5_gauge_24 : decode cX5_gauge 24 = .ok (.getfield 53, 3) := by decide +kernel
theorem dX5_gauge_27 : decode cX5_gauge 27 = .ok (.bipush 8, 2) := by decide +kernel
theorem dX5_gauge_29 : decode cX5_gauge 29 = .ok (.if_icmp .ne 6, 3) := by decide +kernel
theorem dX5_gauge_32 : decode cX5_gauge 32 = .ok (.bipush (-4), 2) := by decide +kernel
theorem dX5_gauge_34 : decode cX5_gauge 34 = .ok (.ireturn, 1) := by decide +kernel
theorem dX5_gauge_35 : decode cX5_gauge 35 = .ok (.aload_n 0, 1) := by decide +kernel
theorem dX5_gauge_36 : decode cX5_gauge 36 = .ok (.getfield 16, 3) := by decide +kernel
theorem dX5_gauge_39 : decode cX5_gauge 39 = .ok (.aload_n 0, 1) := by decide +kernel
theorem dX5_gauge_40 : decode cX5_gauge 40 = .ok (.getfield 53, 3) := by decide +kernel
theorem dX5_gauge_43 : decode cX5_gauge 43 = .ok (.iload_n 1, 1) := by decide +kernel
theorem dX5_gauge_44 : decode cX5_gauge 44 = .ok (.iastore, 1) := by decide +kernel
theorem dX5_gauge_45 : decode cX5_gauge 45 = .ok (.aload_n 0, 1) := by decide +kernel
theorem dX5_gauge_46 : decode cX5_gauge 46 = .ok (.getfield 19, 3) := by decide +kernel
theorem dX5_gauge_49 : decode cX5_gauge 49 = .ok (.aload_n 0, 1) := by decide +kernel
theorem dX5_gauge_50 : decode cX5_gauge 50 = .ok (.getfield 53, 3) := by decide +kernel
theorem dX5_gauge_53 : decode cX5_gauge 53 = .ok (.iload_n 2, 1) := by decide +kernel
theorem dX5_gauge_54 : decode cX5_gauge 54 = .ok (.iastore, 1) := by decide +kernel
theorem dX5_gauge_55 : decode cX5_gauge 55 = .ok (.aload_n 0, 1) := by decide +kernel
theorem dX5_gauge_56 : decode cX5_gauge 56 = .ok (.getfield 22, 3) := by decide +kernel
theorem dX5_gauge_59 : decode cX5_gauge 59 = .ok (.aload_n 0, 1) := by decide +kernel
theorem dX5_gauge_60 : decode cX5_gauge 60 = .ok (.getfield 53, 3) := by decide +kernel
theorem dX5_gauge_63 : decode cX5_gauge 63 = .ok (.iconst 0, 1) := by decide +kernel
theorem dX5_gauge_64 : decode cX5_gauge 64 = .ok (.iastore, 1) := by decide +kernel
theorem dX5_gauge_65 : decode cX5_gauge 65 = .ok (.iconst 0, 1) := by decide +kernel
theorem dX5_gauge_66 : decode cX5_gauge 66 = .ok (.istore_n 3, 1) := by decide +kernel
theorem dX5_gauge_67 : decode cX5_gauge 67 = .ok (.iload_n 3, 1) := by decide +kernel
theorem dX5_gauge_68 : decode cX5_gauge 68 = .ok (.bipush 64, 2) := by decide +kernel
theorem dX5_gauge_70 : decode cX5_gauge 70 = .ok (.if_icmp .ge 40, 3) := by decide +kernel
theorem dX5_gauge_73 : decode cX5_gauge 73 = .ok (.aload_n 0, 1) := by decide +kernel
theorem dX5_gauge_74 : decode cX5_gauge 74 = .ok (.getfield 25, 3) := by decide +kernel
theorem dX5_gauge_77 : decode cX5_gauge 77 = .ok (.bipush 64, 2) := by decide +kernel
theorem dX5_gauge_79 : decode cX5_gauge 79 = .ok (.aload_n 0, 1) := by decide +kernel
theorem dX5_gauge_80 : decode cX5_gauge 80 = .ok (.getfield 53, 3) := by decide +kernel
theorem dX5_gauge_83 : decode cX5_gauge 83 = .ok (.imul, 1) := by decide +kernel
theorem dX5_gauge_84 : decode cX5_gauge 84 = .ok (.iload_n 3, 1) := by decide +kernel
theorem dX5_gauge_85 : decode cX5_gauge 85 = .ok (.iadd, 1) := by decide +kernel
theorem dX5_gauge_86 : decode cX5_gauge 86 = .ok (.iconst 0, 1) := by decide +kernel
theorem dX5_gauge_87 : decode cX5_gauge 87 = .ok (.bastore, 1) := by decide +kernel
theorem dX5_gauge_88 : decode cX5_gauge 88 = .ok (.aload_n 0, 1) := by decide +kernel
theorem dX5_gauge_89 : decode cX5_gauge 89 = .ok (.getfield 29, 3) := by decide +kernel
theorem dX5_gauge_92 : decode cX5_gauge 92 = .ok (.bipush 64, 2) := by decide +kernel
theorem dX5_gauge_94 : decode cX5_gauge 94 = .ok (.aload_n 0, 1) := by decide +kernel
theorem dX5_gauge_95 : decode cX5_gauge 95 = .ok (.getfield 53, 3) := by decide +kernel
theorem dX5_gauge_98 : decode cX5_gauge 98 = .ok (.imul, 1) := by decide +kernel
theorem dX5_gauge_99 : decode cX5_gauge 99 = .ok (.iload_n 3, 1) := by decide +kernel
theorem dX5_gauge_100 : decode cX5_gauge 100 = .ok (.iadd, 1) := by decide +kernel
theorem dX5_gauge_101 : decode cX5_gauge 101 = .ok (.bipush (-6), 2) := by decide +kernel
theorem dX5_gauge_103 : decode cX5_gauge 103 = .ok (.iastore, 1) := by decide +kernel
theorem dX5_gauge_104 : decode cX5_gauge 104 = .ok (.iinc 3 1, 3) := by decide +kernel
theorem dX5_gauge_107 : decode cX5_gauge 107 = .ok (.goto (-40), 3) := by decide +kernel
theorem dX5_gauge_110 : decode cX5_gauge 110 = .ok (.aload_n 0, 1) := by decide +kernel
theorem dX5_gauge_111 : decode cX5_gauge 111 = .ok (.dup, 1) := by decide +kernel
theorem dX5_gauge_112 : decode cX5_gauge 112 = .ok (.getfield 53, 3) := by decide +kernel
theorem dX5_gauge_115 : decode cX5_gauge 115 = .ok (.iconst 1, 1) := by decide +kernel
theorem dX5_gauge_116 : decode cX5_gauge 116 = .ok (.iadd, 1) := by decide +kernel
theorem dX5_gauge_117 : decode cX5_gauge 117 = .ok (.putfield 53, 3) := by decide +kernel
theorem dX5_gauge_120 : decode cX5_gauge 120 = .ok (.aload_n 0, 1) := by decide +kernel
theorem dX5_gauge_121 : decode cX5_gauge 121 = .ok (.iconst 0, 1) := by decide +kernel
theorem dX5_gauge_122 : decode cX5_gauge 122 = .ok (.putfield 61, 3) := by decide +kernel
theorem dX5_gauge_125 : decode cX5_gauge 125 = .ok (.aload_n 0, 1) := by decide +kernel
theorem dX5_gauge_126 : decode cX5_gauge 126 = .ok (.getfield 53, 3) := by decide +kernel
theorem dX5_gauge_129 : decode cX5_gauge 129 = .ok (.iconst 1, 1) := by decide +kernel
theorem dX5_gauge_130 : decode cX5_gauge 130 = .ok (.isub, 1) := by decide +kernel
theorem dX5_gauge_131 : decode cX5_gauge 131 = .ok (.ireturn, 1) := by decide +kernel
set_option maxRecDepth 20000 in
theorem ggX5_move_X5_isGauge : GoodIn wsX5_move wsX5_isGauge := goodIn_r _ [8, 9, 10, 11, 7, 12, 23, 24, 25, 26, 27, 28, 29, 30, 31, 32, 33, 34, 35, 36, 37, 38, 39, 40, 41] (by decide +kernel) (by decide +kernel)
set_option maxRecDepth 20000 in
theorem gX5_move_X5_isGauge : GoodIn wsX5_move (wsV RX5 76 RX5 yX5_isGauge wsX5_isGauge) := goodIn_app (goodIn_of _ (by decide +kernel)) ggX5_move_X5_isGauge
set_option maxRecDepth 20000 in
theorem ggX5_move_X5_isPlace : GoodIn wsX5_move wsX5_isPlace := goodIn_r _ [15, 10, 11, 7, 12] (by decide +kernel) (by decide +kernel)
set_option maxRecDepth 20000 in
theorem gX5_move_X5_isPlace : GoodIn wsX5_move (va_wsS RX5 68 yX5_isPlace wsX5_isPlace) := goodIn_app (goodIn_of _ (by decide +kernel)) ggX5_move_X5_isPlace
set_option maxRecDepth 20000 in
theorem ggX5_move_X5_gaugeAt : GoodIn wsX5_move wsX5_gaugeAt := goodIn_r _ [19, 9, 1, 2, 23, 24, 25, 26, 27, 28, 29, 30, 31, 32, 33, 34, 35, 36, 37, 38, 39, 40, 41] (by decide +kernel) (by decide +kernel)
set_option maxRecDepth 20000 in
theorem gX5_move_X5_gaugeAt : GoodIn wsX5_move (wsV RX5 72 RX5 yX5_gaugeAt wsX5_gaugeAt) := goodIn_app (goodIn_of _ (by decide +kernel)) ggX5_move_X5_gaugeAt
set_option maxRecDepth 20000 in
theorem ggX5_move_X5_square : GoodIn wsX5_move wsX5_square := goodIn_r _ [22] (by decide +kernel) (by decide +kernel)
set_option maxRecDepth 20000 in
theorem gX5_move_X5_square : GoodIn wsX5_move (va_wsS RX5 80 yX5_square wsX5_square) := goodIn_app (goodIn_of _ (by decide +kernel)) ggX5_move_X5_square
theorem dX5_move_0 : decode cX5_move 0 = .ok (.aload_n 0, 1) := by decide +kernel
theorem dX5_move_1 : decode cX5_move 1 = .ok (.iload_n 1, 1) := by decide +kernel
theorem dX5_move_2 : decode cX5_move 2 = .ok (.invokevirtual 76, 3) := by decide +kernel
theorem dX5_move_5 : decode cX5_move 5 = .ok (.ifCond .ne 5, 3) := by decide +kernel
theorem dX5_move_8 : decode cX5_move 8 = .ok (.iconst (-1), 1) := by decide +kernel
theorem dX5_move_9 : decode cX5_move 9 = .ok (.ireturn, 1) := by decide +kernel
theorem dX5_move_10 : decode cX5_move 10 = .ok (.iload_n 2, 1) := by decide +kernel
theorem dX5_move_11 : decode cX5_move 11 = .ok (.iload_n 3, 1) := by decide +kernel
theorem dX5_move_12 : decode cX5_move 12 = .ok (.invokestatic 68, 3) := by decide +kernel
theorem dX5_move_15 : decode cX5_move 15 = .ok (.ifCond .ne 6, 3) := by decide +kernel
theorem dX5_move_18 : decode cX5_move 18 = .ok (.bipush (-2), 2) := by decide +kernel
theorem dX5_move_20 : decode cX5_move 20 = .ok (.ireturn, 1) := by decide +kernel
theorem dX5_move_21 : decode cX5_move 21 = .ok (.aload_n 0, 1) := by decide +kernel
theorem dX5_move_22 : decode cX5_move 22 = .ok (.iload_n 2, 1) := by decide +kernel
theorem dX5_move_23 : decode cX5_move 23 = .ok (.iload_n 3, 1) := by decide +kernel
theorem dX5_move_24 : decode cX5_move 24 = .ok (.invokevirtual 72, 3) := by decide +kernel
theorem dX5_move_27 : decode cX5_move 27 = .ok (.istore 4, 2) := by decide +kernel
theorem dX5_move_29 : decode cX5_move 29 = .ok (.iload 4, 2) := by decide +kernel
theorem dX5_move_31 : decode cX5_move 31 = .ok (.ifCond .lt 12, 3) := by decide +kernel
theorem dX5_move_34 : decode cX5_move 34 = .ok (.iload 4, 2) := by decide +kernel
theorem dX5_move_36 : decode cX5_move 36 = .ok (.iload_n 1, 1) := by decide +kernel
theorem dX5_move_37 : decode cX5_move 37 = .ok (.if_icmp .eq 6, 3) := by decide +kernel
theorem dX5_move_40 : decode cX5_move 40 = .ok (.bipush (-5), 2) := by decide +kernel
theorem dX5_move_42 : decode cX5_move 42 = .ok (.ireturn, 1) := by decide +kernel
theorem dX5_move_43 : decode cX5_move 43 = .ok (.iload_n 2, 1) := by decide +kernel
theorem dX5_move_44 : decode cX5_move 44 = .ok (.aload_n 0, 1) := by decide +kernel
theorem dX5_move_45 : decode cX5_move 45 = .ok (.getfield 16, 3) := by decide +kernel
theorem dX5_move_48 : decode cX5_move 48 = .ok (.iload_n 1, 1) := by decide +kernel
theorem dX5_move_49 : decode cX5_move 49 = .ok (.iaload, 1) := by decide +kernel
theorem dX5_move_50 : decode cX5_move 50 = .ok (.isub, 1) := by decide +kernel
theorem dX5_move_51 : decode cX5_move 51 = .ok (.invokestatic 80, 3) := by decide +kernel
theorem dX5_move_54 : decode cX5_move 54 = .ok (.iload_n 3, 1) := by decide +kernel
theorem dX5_move_55 : decode cX5_move 55 = .ok (.aload_n 0, 1) := by decide +kernel
theorem dX5_move_56 : decode cX5_move 56 = .ok (.getfield 19, 3) := by decide +kernel
theorem dX5_move_59 : decode cX5_move 59 = .ok (.iload_n 1, 1) := by decide +kernel
theorem dX5_move_60 : decode cX5_move 60 = .ok (.iaload, 1) := by decide +kernel
theorem dX5_move_61 : decode cX5_move 61 = .ok (.isub, 1) := by decide +kernel
theorem dX5_move_62 : decode cX5_move 62 = .ok (.invokestatic 80, 3) := by decide +kernel
theorem dX5_move_65 : decode cX5_move 65 = .ok (.iadd, 1) := by decide +kernel
theorem dX5_move_66 : decode cX5_move 66 = .ok (.istore 5, 2) := by decide +kernel
theorem dX5_move_68 : decode cX5_move 68 = .ok (.aload_n 0, 1) := by decide +kernel
theorem dX5_move_69 : decode cX5_move 69 = .ok (.getfield 16, 3) := by decide +kernel
theorem dX5_move_72 : decode cX5_move 72 = .ok (.iload_n 1, 1) := by decide +kernel
theorem dX5_move_73 : decode cX5_move 73 = .ok (.iload_n 2, 1) := by decide +kernel
theorem dX5_move_74 : decode cX5_move 74 = .ok (.iastore, 1) := by decide +kernel
theorem dX5_move_75 : decode cX5_move 75 = .ok (.aload_n 0, 1) := by decide +kernel
theorem dX5_move_76 : decode cX5_move 76 = .ok (.getfield 19, 3) := by decide +kernel
theorem dX5_move_79 : decode cX5_move 79 = .ok (.iload_n 1, 1) := by decide +kernel
theorem dX5_move_80 : decode cX5_move 80 = .ok (.iload_n 3, 1) := by decide +kernel
theorem dX5_move_81 : decode cX5_move 81 = .ok (.iastore, 1) := by decide +kernel
theorem dX5_move_82 : decode cX5_move 82 = .ok (.aload_n 0, 1) := by decide +kernel
theorem dX5_move_83 : decode cX5_move 83 = .ok (.iconst 0, 1) := by decide +kernel
theorem dX5_move_84 : decode cX5_move 84 = .ok (.putfield 61, 3) := by decide +kernel
theorem dX5_move_87 : decode cX5_move 87 = .ok (.iload 5, 2) := by decide +kernel
theorem dX5_move_89 : decode cX5_move 89 = .ok (.ireturn, 1) := by decide +kernel
set_option maxRecDepth 20000 in
theorem ggX5_reach_X5_isGauge : GoodIn wsX5_reach wsX5_isGauge := goodIn_r _ [7, 8, 9, 10, 6, 11, 12, 13, 14, 15, 16, 17, 18, 19, 20, 21, 22, 23, 24, 25, 26, 27, 28, 29, 30] (by decide +kernel) (by decide +kernel)
set_option maxRecDepth 20000 in
theorem gX5_reach_X5_isGauge : GoodIn wsX5_reach (wsV RX5 76 RX5 yX5_isGauge wsX5_isGauge) := goodIn_app (goodIn_of _ (by decide +kernel)) ggX5_reach_X5_isGauge
set_option maxRecDepth 20000 in
theorem ggX5_reach_X5_in : GoodIn wsX5_reach wsX5_in := goodIn_r _ [11] (by decide +kernel) (by decide +kernel)
set_option maxRecDepth 20000 in
theorem gX5_reach_X5_in : GoodIn wsX5_reach (va_wsS RX5 57 yX5_in wsX5_in) := goodIn_app (goodIn_of _ (by decide +kernel)) ggX5_reach_X5_in
theorem dX5_reach_0 : decode cX5_reach 0 = .ok (.aload_n 0, 1) := by decide +kernel
theorem dX5_reach_1 : decode cX5_reach 1 = .ok (.iload_n 1, 1) := by decide +kernel
theorem dX5_reach_2 : decode cX5_reach 2 = .ok (.invokevirtual 76, 3) := by decide +kernel
theorem dX5_reach_5 : decode cX5_reach 5 = .ok (.ifCond .ne 5, 3) := by decide +kernel
theorem dX5_reach_8 : decode cX5_reach 8 = .ok (.iconst (-1), 1) := by decide +kernel
theorem dX5_reach_9 : decode cX5_reach 9 = .ok (.ireturn, 1) := by decide +kernel
theorem dX5_reach_10 : decode cX5_reach 10 = .ok (.iload_n 2, 1) := by decide +kernel
theorem dX5_reach_11 : decode cX5_reach 11 = .ok (.sipush (-400), 3) := by decide +kernel
theorem dX5_reach_14 : decode cX5_reach 14 = .ok (.sipush 400, 3) := by decide +kernel
theorem dX5_reach_17 : decode cX5_reach 17 = .ok (.invokestatic 57, 3) := by decide +kernel
theorem dX5_reach_20 : decode cX5_reach 20 = .ok (.ifCond .ne 6, 3) := by decide +kernel
theorem dX5_reach_23 : decode cX5_reach 23 = .ok (.bipush (-2), 2) := by decide +kernel
theorem dX5_reach_25 : decode cX5_reach 25 = .ok (.ireturn, 1) := by decide +kernel
theorem dX5_reach_26 : decode cX5_reach 26 = .ok (.aload_n 0, 1) := by decide +kernel
theorem dX5_reach_27 : decode cX5_reach 27 = .ok (.getfield 22, 3) := by decide +kernel
theorem dX5_reach_30 : decode cX5_reach 30 = .ok (.iload_n 1, 1) := by decide +kernel
theorem dX5_reach_31 : decode cX5_reach 31 = .ok (.iaload, 1) := by decide +kernel
theorem dX5_reach_32 : decode cX5_reach 32 = .ok (.istore_n 3, 1) := by decide +kernel
theorem dX5_reach_33 : decode cX5_reach 33 = .ok (.aload_n 0, 1) := by decide +kernel
theorem dX5_reach_34 : decode cX5_reach 34 = .ok (.getfield 22, 3) := by decide +kernel
theorem dX5_reach_37 : decode cX5_reach 37 = .ok (.iload_n 1, 1) := by decide +kernel
theorem dX5_reach_38 : decode cX5_reach 38 = .ok (.iload_n 2, 1) := by decide +kernel
theorem dX5_reach_39 : decode cX5_reach 39 = .ok (.iastore, 1) := by decide +kernel
theorem dX5_reach_40 : decode cX5_reach 40 = .ok (.aload_n 0, 1) := by decide +kernel
theorem dX5_reach_41 : decode cX5_reach 41 = .ok (.iconst 0, 1) := by decide +kernel
theorem dX5_reach_42 : decode cX5_reach 42 = .ok (.putfield 61, 3) := by decide +kernel
theorem dX5_reach_45 : decode cX5_reach 45 = .ok (.iload_n 3, 1) := by decide +kernel
theorem dX5_reach_46 : decode cX5_reach 46 = .ok (.sipush 1000, 3) := by decide +kernel
theorem dX5_reach_49 : decode cX5_reach 49 = .ok (.iadd, 1) := by decide +kernel
theorem dX5_reach_50 : decode cX5_reach 50 = .ok (.ireturn, 1) := by decide +kernel
theorem dX5_daysOut_0 : decode cX5_daysOut 0 = .ok (.iconst 0, 1) := by decide +kernel
theorem dX5_daysOut_1 : decode cX5_daysOut 1 = .ok (.istore_n 2, 1) := by decide +kernel
theorem dX5_daysOut_2 : decode cX5_daysOut 2 = .ok (.iconst 0, 1) := by decide +kernel
theorem dX5_daysOut_3 : decode cX5_daysOut 3 = .ok (.istore_n 3, 1) := by decide +kernel
theorem dX5_daysOut_4 : decode cX5_daysOut 4 = .ok (.iload_n 3, 1) := by decide +kernel
theorem dX5_daysOut_5 : decode cX5_daysOut 5 = .ok (.bipush 64, 2) := by decide +kernel
theorem dX5_daysOut_7 : decode cX5_daysOut 7 = .ok (.if_icmp .ge 31, 3) := by decide +kernel
theorem dX5_daysOut_10 : decode cX5_daysOut 10 = .ok (.iload_n 2, 1) := by decide +kernel
theorem dX5_daysOut_11 : decode cX5_daysOut 11 = .ok (.aload_n 0, 1) := by decide +kernel
theorem dX5_daysOut_12 : decode cX5_daysOut 12 = .ok (.getfield 25, 3) := by decide +kernel
theorem dX5_daysOut_15 : decode cX5_daysOut 15 = .ok (.bipush 64, 2) := by decide +kernel
theorem dX5_daysOut_17 : decode cX5_daysOut 17 = .ok (.iload_n 1, 1) := by decide +kernel
theorem dX5_daysOut_18 : decode cX5_daysOut 18 = .ok (.imul, 1) := by decide +kernel
theorem dX5_daysOut_19 : decode cX5_daysOut 19 = .ok (.iload_n 3, 1) := by decide +kernel
theorem dX5_daysOut_20 : decode cX5_daysOut 20 = .ok (.iadd, 1) := by decide +kernel
theorem dX5_daysOut_21 : decode cX5_daysOut 21 = .ok (.baload, 1) := by decide +kernel
theorem dX5_daysOut_22 : decode cX5_daysOut 22 = .ok (.ifCond .eq 7, 3) := by decide +kernel
theorem dX5_daysOut_25 : decode cX5_daysOut 25 = .ok (.iconst 1, 1) := by decide +kernel
theorem dX5_daysOut_26 : decode cX5_daysOut 26 = .ok (.goto 4, 3) := by decide +kernel
theorem dX5_daysOut_29 : decode cX5_daysOut 29 = .ok (.iconst 0, 1) := by decide +kernel
theorem dX5_daysOut_30 : decode cX5_daysOut 30 = .ok (.iadd, 1) := by decide +kernel
theorem dX5_daysOut_31 : decode cX5_daysOut 31 = .ok (.istore_n 2, 1) := by decide +kernel
theorem dX5_daysOut_32 : decode cX5_daysOut 32 = .ok (.iinc 3 1, 3) := by decide +kernel
theorem dX5_daysOut_35 : decode cX5_daysOut 35 = .ok (.goto (-31), 3) := by decide +kernel
theorem dX5_daysOut_38 : decode cX5_daysOut 38 = .ok (.iload_n 2, 1) := by decide +kernel
theorem dX5_daysOut_39 : decode cX5_daysOut 39 = .ok (.ireturn, 1) := by decide +kernel
set_option maxRecDepth 20000 in
theorem ggX5_fail_X5_isGauge : GoodIn wsX5_fail wsX5_isGauge := goodIn_r _ [6, 7, 8, 9, 5, 10, 18, 19, 20, 21, 22, 23, 24, 25, 26, 27, 28, 29, 30, 31, 32, 33, 34, 35, 36] (by decide +kernel) (by decide +kernel)
set_option maxRecDepth 20000 in
theorem gX5_fail_X5_isGauge : GoodIn wsX5_fail (wsV RX5 76 RX5 yX5_isGauge wsX5_isGauge) := goodIn_app (goodIn_of _ (by decide +kernel)) ggX5_fail_X5_isGauge
set_option maxRecDepth 20000 in
theorem ggX5_fail_X5_isDay : GoodIn wsX5_fail wsX5_isDay := goodIn_r _ [13, 8, 9, 5, 10] (by decide +kernel) (by decide +kernel)
set_option maxRecDepth 20000 in
theorem gX5_fail_X5_isDay : GoodIn wsX5_fail (va_wsS RX5 84 yX5_isDay wsX5_isDay) := goodIn_app (goodIn_of _ (by decide +kernel)) ggX5_fail_X5_isDay
set_option maxRecDepth 20000 in
theorem ggX5_fail_X5_in : GoodIn wsX5_fail wsX5_in := goodIn_r _ [10] (by decide +kernel) (by decide +kernel)
set_option maxRecDepth 20000 in
theorem gX5_fail_X5_in : GoodIn wsX5_fail (va_wsS RX5 57 yX5_in wsX5_in) := goodIn_app (goodIn_of _ (by decide +kernel)) ggX5_fail_X5_in
set_option maxRecDepth 20000 in
theorem ggX5_fail_X5_daysOut : GoodIn wsX5_fail wsX5_daysOut := goodIn_r _ [17, 1, 18, 19, 20, 21, 22, 23, 24, 25, 26, 27, 28, 29, 30, 31, 32, 33, 34, 35, 36] (by decide +kernel) (by decide +kernel)
set_option maxRecDepth 20000 in
theorem gX5_fail_X5_daysOut : GoodIn wsX5_fail (wsV RX5 87 RX5 yX5_daysOut wsX5_daysOut) := goodIn_app (goodIn_of _ (by decide +kernel)) ggX5_fail_X5_daysOut
theorem dX5_fail_0 : decode cX5_fail 0 = .ok (.aload_n 0, 1) := by decide +kernel
theorem dX5_fail_1 : decode cX5_fail 1 = .ok (.iload_n 1, 1) := by decide +kernel
theorem dX5_fail_2 : decode cX5_fail 2 = .ok (.invokevirtual 76, 3) := by decide +kernel
theorem dX5_fail_5 : decode cX5_fail 5 = .ok (.ifCond .ne 5, 3) := by decide +kernel
theorem dX5_fail_8 : decode cX5_fail 8 = .ok (.iconst (-1), 1) := by decide +kernel
theorem dX5_fail_9 : decode cX5_fail 9 = .ok (.ireturn, 1) := by decide +kernel
theorem dX5_fail_10 : decode cX5_fail 10 = .ok (.iload_n 2, 1) := by decide +kernel
theorem dX5_fail_11 : decode cX5_fail 11 = .ok (.invokestatic 84, 3) := by decide +kernel
theorem dX5_fail_14 : decode cX5_fail 14 = .ok (.ifCond .eq 25, 3) := by decide +kernel
theorem dX5_fail_17 : decode cX5_fail 17 = .ok (.iload_n 3, 1) := by decide +kernel
theorem dX5_fail_18 : decode cX5_fail 18 = .ok (.invokestatic 84, 3) := by decide +kernel
theorem dX5_fail_21 : decode cX5_fail 21 = .ok (.ifCond .eq 18, 3) := by decide +kernel
theorem dX5_fail_24 : decode cX5_fail 24 = .ok (.iload_n 2, 1) := by decide +kernel
theorem dX5_fail_25 : decode cX5_fail 25 = .ok (.iload_n 3, 1) := by decide +kernel
theorem dX5_fail_26 : decode cX5_fail 26 = .ok (.if_icmp .gt 13, 3) := by decide +kernel
theorem dX5_fail_29 : decode cX5_fail 29 = .ok (.iload 4, 2) := by decide +kernel
theorem dX5_fail_31 : decode cX5_fail 31 = .ok (.iconst 0, 1) := by decide +kernel
theorem dX5_fail_32 : decode cX5_fail 32 = .ok (.iconst 1, 1) := by decide +kernel
theorem dX5_fail_33 : decode cX5_fail 33 = .ok (.invokestatic 57, 3) := by decide +kernel
theorem dX5_fail_36 : decode cX5_fail 36 = .ok (.ifCond .ne 6, 3) := by decide +kernel
theorem dX5_fail_39 : decode cX5_fail 39 = .ok (.bipush (-2), 2) := by decide +kernel
theorem dX5_fail_41 : decode cX5_fail 41 = .ok (.ireturn, 1) := by decide +kernel
theorem dX5_fail_42 : decode cX5_fail 42 = .ok (.iload_n 2, 1) := by decide +kernel
theorem dX5_fail_43 : decode cX5_fail 43 = .ok (.istore 5, 2) := by decide +kernel
theorem dX5_fail_45 : decode cX5_fail 45 = .ok (.iload 5, 2) := by decide +kernel
theorem dX5_fail_47 : decode cX5_fail 47 = .ok (.iload_n 3, 1) := by decide +kernel
theorem dX5_fail_48 : decode cX5_fail 48 = .ok (.if_icmp .gt 32, 3) := by decide +kernel
theorem dX5_fail_51 : decode cX5_fail 51 = .ok (.aload_n 0, 1) := by decide +kernel
theorem dX5_fail_52 : decode cX5_fail 52 = .ok (.getfield 25, 3) := by decide +kernel
theorem dX5_fail_55 : decode cX5_fail 55 = .ok (.bipush 64, 2) := by decide +kernel
theorem dX5_fail_57 : decode cX5_fail 57 = .ok (.iload_n 1, 1) := by decide +kernel
theorem dX5_fail_58 : decode cX5_fail 58 = .ok (.imul, 1) := by decide +kernel
theorem dX5_fail_59 : decode cX5_fail 59 = .ok (.iload 5, 2) := by decide +kernel
theorem dX5_fail_61 : decode cX5_fail 61 = .ok (.iadd, 1) := by decide +kernel
theorem dX5_fail_62 : decode cX5_fail 62 = .ok (.iload 4, 2) := by decide +kernel
theorem dX5_fail_64 : decode cX5_fail 64 = .ok (.iconst 1, 1) := by decide +kernel
theorem dX5_fail_65 : decode cX5_fail 65 = .ok (.if_icmp .ne 7, 3) := by decide +kernel
theorem dX5_fail_68 : decode cX5_fail 68 = .ok (.iconst 1, 1) := by decide +kernel
theorem dX5_fail_69 : decode cX5_fail 69 = .ok (.goto 4, 3) := by decide +kernel
theorem dX5_fail_72 : decode cX5_fail 72 = .ok (.iconst 0, 1) := by decide +kernel
theorem dX5_fail_73 : decode cX5_fail 73 = .ok (.bastore, 1) := by decide +kernel
theorem dX5_fail_74 : decode cX5_fail 74 = .ok (.iinc 5 1, 3) := by decide +kernel
theorem dX5_fail_77 : decode cX5_fail 77 = .ok (.goto (-32), 3) := by decide +kernel
theorem dX5_fail_80 : decode cX5_fail 80 = .ok (.aload_n 0, 1) := by decide +kernel
theorem dX5_fail_81 : decode cX5_fail 81 = .ok (.iload_n 1, 1) := by decide +kernel
theorem dX5_fail_82 : decode cX5_fail 82 = .ok (.invokevirtual 87, 3) := by decide +kernel
theorem dX5_fail_85 : decode cX5_fail 85 = .ok (.ireturn, 1) := by decide +kernel
set_option maxRecDepth 20000 in
theorem ggX5_rain_X5_isGauge : GoodIn wsX5_rain wsX5_isGauge := goodIn_r _ [6, 7, 8, 9, 5, 10, 14, 15, 16, 17, 18, 19, 20, 21, 22, 23, 24, 25, 26, 27, 28, 29, 30, 31, 32] (by decide +kernel) (by decide +kernel)
set_option maxRecDepth 20000 in
theorem gX5_rain_X5_isGauge : GoodIn wsX5_rain (wsV RX5 76 RX5 yX5_isGauge wsX5_isGauge) := goodIn_app (goodIn_of _ (by decide +kernel)) ggX5_rain_X5_isGauge
set_option maxRecDepth 20000 in
theorem ggX5_rain_X5_isDay : GoodIn wsX5_rain wsX5_isDay := goodIn_r _ [13, 8, 9, 5, 10] (by decide +kernel) (by decide +kernel)
set_option maxRecDepth 20000 in
theorem gX5_rain_X5_isDay : GoodIn wsX5_rain (va_wsS RX5 84 yX5_isDay wsX5_isDay) := goodIn_app (goodIn_of _ (by decide +kernel)) ggX5_rain_X5_isDay
set_option maxRecDepth 20000 in
theorem ggX5_rain_X5_in : GoodIn wsX5_rain wsX5_in := goodIn_r _ [10] (by decide +kernel) (by decide +kernel)
set_option maxRecDepth 20000 in
theorem gX5_rain_X5_in : GoodIn wsX5_rain (va_wsS RX5 57 yX5_in wsX5_in) := goodIn_app (goodIn_of _ (by decide +kernel)) ggX5_rain_X5_in
theorem dX5_rain_0 : decode cX5_rain 0 = .ok (.aload_n 0, 1) := by decide +kernel
theorem dX5_rain_1 : decode cX5_rain 1 = .ok (.iload_n 1, 1) := by decide +kernel
theorem dX5_rain_2 : decode cX5_rain 2 = .ok (.invokevirtual 76, 3) := by decide +kernel
theorem dX5_rain_5 : decode cX5_rain 5 = .ok (.ifCond .ne 5, 3) := by decide +kernel
theorem dX5_rain_8 : decode cX5_rain 8 = .ok (.iconst (-1), 1) := by decide +kernel
theorem dX5_rain_9 : decode cX5_rain 9 = .ok (.ireturn, 1) := by decide +kernel
theorem dX5_rain_10 : decode cX5_rain 10 = .ok (.iload_n 2, 1) := by decide +kernel
theorem dX5_rain_11 : decode cX5_rain 11 = .ok (.invokestatic 84, 3) := by decide +kernel
theorem dX5_rain_14 : decode cX5_rain 14 = .ok (.ifCond .eq 20, 3) := by decide +kernel
theorem dX5_rain_17 : decode cX5_rain 17 = .ok (.iload_n 3, 1) := by decide +kernel
theorem dX5_rain_18 : decode cX5_rain 18 = .ok (.bipush (-6), 2) := by decide +kernel
theorem dX5_rain_20 : decode cX5_rain 20 = .ok (.if_icmp .eq 17, 3) := by decide +kernel
theorem dX5_rain_23 : decode cX5_rain 23 = .ok (.iload_n 3, 1) := by decide +kernel
theorem dX5_rain_24 : decode cX5_rain 24 = .ok (.iconst 0, 1) := by decide +kernel
theorem dX5_rain_25 : decode cX5_rain 25 = .ok (.sipush 9999, 3) := by decide +kernel
theorem dX5_rain_28 : decode cX5_rain 28 = .ok (.invokestatic 57, 3) := by decide +kernel
theorem dX5_rain_31 : decode cX5_rain 31 = .ok (.ifCond .ne 6, 3) := by decide +kernel
theorem dX5_rain_34 : decode cX5_rain 34 = .ok (.bipush (-2), 2) := by decide +kernel
theorem dX5_rain_36 : decode cX5_rain 36 = .ok (.ireturn, 1) := by decide +kernel
theorem dX5_rain_37 : decode cX5_rain 37 = .ok (.aload_n 0, 1) := by decide +kernel
theorem dX5_rain_38 : decode cX5_rain 38 = .ok (.getfield 29, 3) := by decide +kernel
theorem dX5_rain_41 : decode cX5_rain 41 = .ok (.bipush 64, 2) := by decide +kernel
theorem dX5_rain_43 : decode cX5_rain 43 = .ok (.iload_n 1, 1) := by decide +kernel
theorem dX5_rain_44 : decode cX5_rain 44 = .ok (.imul, 1) := by decide +kernel
theorem dX5_rain_45 : decode cX5_rain 45 = .ok (.iload_n 2, 1) := by decide +kernel
theorem dX5_rain_46 : decode cX5_rain 46 = .ok (.iadd, 1) := by decide +kernel
theorem dX5_rain_47 : decode cX5_rain 47 = .ok (.iaload, 1) := by decide +kernel
theorem dX5_rain_48 : decode cX5_rain 48 = .ok (.istore 4, 2) := by decide +kernel
theorem dX5_rain_50 : decode cX5_rain 50 = .ok (.aload_n 0, 1) := by decide +kernel
theorem dX5_rain_51 : decode cX5_rain 51 = .ok (.getfield 29, 3) := by decide +kernel
theorem dX5_rain_54 : decode cX5_rain 54 = .ok (.bipush 64, 2) := by decide +kernel
theorem dX5_rain_56 : decode cX5_rain 56 = .ok (.iload_n 1, 1) := by decide +kernel
theorem dX5_rain_57 : decode cX5_rain 57 = .ok (.imul, 1) := by decide +kernel
theorem dX5_rain_58 : decode cX5_rain 58 = .ok (.iload_n 2, 1) := by decide +kernel
theorem dX5_rain_59 : decode cX5_rain 59 = .ok (.iadd, 1) := by decide +kernel
theorem dX5_rain_60 : decode cX5_rain 60 = .ok (.iload_n 3, 1) := by decide +kernel
theorem dX5_rain_61 : decode cX5_rain 61 = .ok (.iastore, 1) := by decide +kernel
theorem dX5_rain_62 : decode cX5_rain 62 = .ok (.iload 4, 2) := by decide +kernel
theorem dX5_rain_64 : decode cX5_rain 64 = .ok (.ireturn, 1) := by decide +kernel
theorem dX5_daysRead_0 : decode cX5_daysRead 0 = .ok (.iconst 0, 1) := by decide +kernel
theorem dX5_daysRead_1 : decode cX5_daysRead 1 = .ok (.istore_n 2, 1) := by decide +kernel
theorem dX5_daysRead_2 : decode cX5_daysRead 2 = .ok (.iconst 0, 1) := by decide +kernel
theorem dX5_daysRead_3 : decode cX5_daysRead 3 = .ok (.istore_n 3, 1) := by decide +kernel
theorem dX5_daysRead_4 : decode cX5_daysRead 4 = .ok (.iload_n 3, 1) := by decide +kernel
theorem dX5_daysRead_5 : decode cX5_daysRead 5 = .ok (.bipush 64, 2) := by decide +kernel
theorem dX5_daysRead_7 : decode cX5_daysRead 7 = .ok (.if_icmp .ge 31, 3) := by decide +kernel
theorem dX5_daysRead_10 : decode cX5_daysRead 10 = .ok (.iload_n 2, 1) := by decide +kernel
theorem dX5_daysRead_11 : decode cX5_daysRead 11 = .ok (.aload_n 0, 1) := by decide +kernel
theorem dX5_daysRead_12 : decode cX5_daysRead 12 = .ok (.getfield 29, 3) := by decide +kernel
theorem dX5_daysRead_15 : decode cX5_daysRead 15 = .ok (.bipush 64, 2) := by decide +kernel
theorem dX5_daysRead_17 : decode cX5_daysRead 17 = .ok (.iload_n 1, 1) := by decide +kernel
theorem dX5_daysRead_18 : decode cX5_daysRead 18 = .ok (.imul, 1) := by decide +kernel
theorem dX5_daysRead_19 : decode cX5_daysRead 19 = .ok (.iload_n 3, 1) := by decide +kernel
theorem dX5_daysRead_20 : decode cX5_daysRead 20 = .ok (.iadd, 1) := by decide +kernel
theorem dX5_daysRead_21 : decode cX5_daysRead 21 = .ok (.iaload, 1) := by decide +kernel
theorem dX5_daysRead_22 : decode cX5_daysRead 22 = .ok (.ifCond .lt 7, 3) := by decide +kernel
theorem dX5_daysRead_25 : decode cX5_daysRead 25 = .ok (.iconst 1, 1) := by decide +kernel
theorem dX5_daysRead_26 : decode cX5_daysRead 26 = .ok (.goto 4, 3) := by decide +kernel
theorem dX5_daysRead_29 : decode cX5_daysRead 29 = .ok (.iconst 0, 1) := by decide +kernel
theorem dX5_daysRead_30 : decode cX5_daysRead 30 = .ok (.iadd, 1) := by decide +kernel
theorem dX5_daysRead_31 : decode cX5_daysRead 31 = .ok (.istore_n 2, 1) := by decide +kernel
theorem dX5_daysRead_32 : decode cX5_daysRead 32 = .ok (.iinc 3 1, 3) := by decide +kernel
theorem dX5_daysRead_35 : decode cX5_daysRead 35 = .ok (.goto (-31), 3) := by decide +kernel
theorem dX5_daysRead_38 : decode cX5_daysRead 38 = .ok (.iload_n 2, 1) := by decide +kernel
theorem dX5_daysRead_39 : decode cX5_daysRead 39 = .ok (.ireturn, 1) := by decide +kernel
set_option maxRecDepth 20000 in
theorem ggX5_of_X5_isGauge : GoodIn wsX5_of wsX5_isGauge := goodIn_r _ [8, 9, 10, 11, 7, 12, 23, 24, 25, 26, 27, 28, 29, 30, 31, 32, 33, 34, 35, 36, 37, 38, 39, 40, 41] (by decide +kernel) (by decide +kernel)
set_option maxRecDepth 20000 in
theorem gX5_of_X5_isGauge : GoodIn wsX5_of (wsV RX5 76 RX5 yX5_isGauge wsX5_isGauge) := goodIn_app (goodIn_of _ (by decide +kernel)) ggX5_of_X5_isGauge
set_option maxRecDepth 20000 in
theorem ggX5_of_X5_daysOut : GoodIn wsX5_of wsX5_daysOut := goodIn_r _ [16, 17, 23, 24, 25, 26, 27, 28, 29, 30, 31, 32, 33, 34, 35, 36, 37, 38, 39, 40, 41] (by decide +kernel) (by decide +kernel)
set_option maxRecDepth 20000 in
theorem gX5_of_X5_daysOut : GoodIn wsX5_of (wsV RX5 87 RX5 yX5_daysOut wsX5_daysOut) := goodIn_app (goodIn_of _ (by decide +kernel)) ggX5_of_X5_daysOut
set_option maxRecDepth 20000 in
theorem ggX5_of_X5_daysRead : GoodIn wsX5_of wsX5_daysRead := goodIn_r _ [21, 22, 23, 24, 25, 26, 27, 28, 29, 30, 31, 32, 33, 34, 35, 36, 37, 38, 39, 40, 41] (by decide +kernel) (by decide +kernel)
set_option maxRecDepth 20000 in
theorem gX5_of_X5_daysRead : GoodIn wsX5_of (wsV RX5 90 RX5 yX5_daysRead wsX5_daysRead) := goodIn_app (goodIn_of _ (by decide +kernel)) ggX5_of_X5_daysRead
theorem dX5_of_0 : decode cX5_of 0 = .ok (.aload_n 0, 1) := by decide +kernel
theorem dX5_of_1 : decode cX5_of 1 = .ok (.iload_n 1, 1) := by decide +kernel
theorem dX5_of_2 : decode cX5_of 2 = .ok (.invokevirtual 76, 3) := by decide +kernel
theorem dX5_of_5 : decode cX5_of 5 = .ok (.ifCond .ne 5, 3) := by decide +kernel
theorem dX5_of_8 : decode cX5_of 8 = .ok (.iconst (-1), 1) := by decide +kernel
theorem dX5_of_9 : decode cX5_of 9 = .ok (.ireturn, 1) := by decide +kernel
theorem dX5_of_10 : decode cX5_of 10 = .ok (.iload_n 2, 1) := by decide +kernel
theorem dX5_of_11 : decode cX5_of 11 = .ok (.tableswitch 78 0 4 #[33, 44, 55, 66, 72], 33) := by decide +kernel
theorem dX5_of_44 : decode cX5_of 44 = .ok (.aload_n 0, 1) := by decide +kernel
theorem dX5_of_45 : decode cX5_of 45 = .ok (.getfield 16, 3) := by decide +kernel
theorem dX5_of_48 : decode cX5_of 48 = .ok (.iload_n 1, 1) := by decide +kernel
theorem dX5_of_49 : decode cX5_of 49 = .ok (.iaload, 1) := by decide +kernel
theorem dX5_of_50 : decode cX5_of 50 = .ok (.sipush 1000, 3) := by decide +kernel
theorem dX5_of_53 : decode cX5_of 53 = .ok (.iadd, 1) := by decide +kernel
theorem dX5_of_54 : decode cX5_of 54 = .ok (.ireturn, 1) := by decide +kernel
theorem dX5_of_55 : decode cX5_of 55 = .ok (.aload_n 0, 1) := by decide +kernel
theorem dX5_of_56 : decode cX5_of 56 = .ok (.getfield 19, 3) := by decide +kernel
theorem dX5_of_59 : decode cX5_of 59 = .ok (.iload_n 1, 1) := by decide +kernel
theorem dX5_of_60 : decode cX5_of 60 = .ok (.iaload, 1) := by decide +kernel
theorem dX5_of_61 : decode cX5_of 61 = .ok (.sipush 1000, 3) := by decide +kernel
theorem dX5_of_64 : decode cX5_of 64 = .ok (.iadd, 1) := by decide +kernel
theorem dX5_of_65 : decode cX5_of 65 = .ok (.ireturn, 1) := by decide +kernel
theorem dX5_of_66 : decode cX5_of 66 = .ok (.aload_n 0, 1) := by decide +kernel
theorem dX5_of_67 : decode cX5_of 67 = .ok (.getfield 22, 3) := by decide +kernel
theorem dX5_of_70 : decode cX5_of 70 = .ok (.iload_n 1, 1) := by decide +kernel
theorem dX5_of_71 : decode cX5_of 71 = .ok (.iaload, 1) := by decide +kernel
theorem dX5_of_72 : decode cX5_of 72 = .ok (.sipush 1000, 3) := by decide +kernel
theorem dX5_of_75 : decode cX5_of 75 = .ok (.iadd, 1) := by decide +kernel
theorem dX5_of_76 : decode cX5_of 76 = .ok (.ireturn, 1) := by decide +kernel
theorem dX5_of_77 : decode cX5_of 77 = .ok (.aload_n 0, 1) := by decide +kernel
theorem dX5_of_78 : decode cX5_of 78 = .ok (.iload_n 1, 1) := by decide +kernel
theorem dX5_of_79 : decode cX5_of 79 = .ok (.invokevirtual 87, 3) := by decide +kernel
theorem dX5_of_82 : decode cX5_of 82 = .ok (.ireturn, 1) := by decide +kernel
theorem dX5_of_83 : decode cX5_of 83 = .ok (.aload_n 0, 1) := by decide +kernel
theorem dX5_of_84 : decode cX5_of 84 = .ok (.iload_n 1, 1) := by decide +kernel
theorem dX5_of_85 : decode cX5_of 85 = .ok (.invokevirtual 90, 3) := by decide +kernel
theorem dX5_of_88 : decode cX5_of 88 = .ok (.ireturn, 1) := by decide +kernel
theorem dX5_of_89 : decode cX5_of 89 = .ok (.bipush (-2), 2) := by decide +kernel
theorem dX5_of_91 : decode cX5_of 91 = .ok (.ireturn, 1) := by decide +kernel
set_option maxRecDepth 20000 in
theorem ggX5_reading_X5_isGauge : GoodIn wsX5_reading wsX5_isGauge := goodIn_r _ [6, 7, 8, 9, 5, 10, 14, 15, 16, 17, 18, 19, 20, 21, 22, 23, 24, 25, 26, 27, 28, 29, 30, 31, 32] (by decide +kernel) (by decide +kernel)
set_option maxRecDepth 20000 in
theorem gX5_reading_X5_isGauge : GoodIn wsX5_reading (wsV RX5 76 RX5 yX5_isGauge wsX5_isGauge) := goodIn_app (goodIn_of _ (by decide +kernel)) ggX5_reading_X5_isGauge
set_option maxRecDepth 20000 in
theorem ggX5_reading_X5_isDay : GoodIn wsX5_reading wsX5_isDay := goodIn_r _ [13, 8, 9, 5, 10] (by decide +kernel) (by decide +kernel)
set_option maxRecDepth 20000 in
theorem gX5_reading_X5_isDay : GoodIn wsX5_reading (va_wsS RX5 84 yX5_isDay wsX5_isDay) := goodIn_app (goodIn_of _ (by decide +kernel)) ggX5_reading_X5_isDay
theorem dX5_reading_0 : decode cX5_reading 0 = .ok (.aload_n 0, 1) := by decide +kernel
theorem dX5_reading_1 : decode cX5_reading 1 = .ok (.iload_n 1, 1) := by decide +kernel
theorem dX5_reading_2 : decode cX5_reading 2 = .ok (.invokevirtual 76, 3) := by decide +kernel
theorem dX5_reading_5 : decode cX5_reading 5 = .ok (.ifCond .ne 5, 3) := by decide +kernel
theorem dX5_reading_8 : decode cX5_reading 8 = .ok (.iconst (-1), 1) := by decide +kernel
theorem dX5_reading_9 : decode cX5_reading 9 = .ok (.ireturn, 1) := by decide +kernel
theorem dX5_reading_10 : decode cX5_reading 10 = .ok (.iload_n 2, 1) := by decide +kernel
theorem dX5_reading_11 : decode cX5_reading 11 = .ok (.invokestatic 84, 3) := by decide +kernel
theorem dX5_reading_14 : decode cX5_reading 14 = .ok (.ifCond .eq 17, 3) := by decide +kernel
theorem dX5_reading_17 : decode cX5_reading 17 = .ok (.aload_n 0, 1) := by decide +kernel
theorem dX5_reading_18 : decode cX5_reading 18 = .ok (.getfield 29, 3) := by decide +kernel
theorem dX5_reading_21 : decode cX5_reading 21 = .ok (.bipush 64, 2) := by decide +kernel
theorem dX5_reading_23 : decode cX5_reading 23 = .ok (.iload_n 1, 1) := by decide +kernel
theorem dX5_reading_24 : decode cX5_reading 24 = .ok (.imul, 1) := by decide +kernel
theorem dX5_reading_25 : decode cX5_reading 25 = .ok (.iload_n 2, 1) := by decide +kernel
theorem dX5_reading_26 : decode cX5_reading 26 = .ok (.iadd, 1) := by decide +kernel
theorem dX5_reading_27 : decode cX5_reading 27 = .ok (.iaload, 1) := by decide +kernel
theorem dX5_reading_28 : decode cX5_reading 28 = .ok (.goto 5, 3) := by decide +kernel
theorem dX5_reading_31 : decode cX5_reading 31 = .ok (.bipush (-2), 2) := by decide +kernel
theorem dX5_reading_33 : decode cX5_reading 33 = .ok (.ireturn, 1) := by decide +kernel
theorem dX5_workingOn_0 : decode cX5_workingOn 0 = .ok (.iconst 0, 1) := by decide +kernel
theorem dX5_workingOn_1 : decode cX5_workingOn 1 = .ok (.istore_n 2, 1) := by decide +kernel
theorem dX5_workingOn_2 : decode cX5_workingOn 2 = .ok (.iconst 0, 1) := by decide +kernel
theorem dX5_workingOn_3 : decode cX5_workingOn 3 = .ok (.istore_n 3, 1) := by decide +kernel
theorem dX5_workingOn_4 : decode cX5_workingOn 4 = .ok (.iload_n 3, 1) := by decide +kernel
theorem dX5_workingOn_5 : decode cX5_workingOn 5 = .ok (.aload_n 0, 1) := by decide +kernel
theorem dX5_workingOn_6 : decode cX5_workingOn 6 = .ok (.getfield 53, 3) := by decide +kernel
theorem dX5_workingOn_9 : decode cX5_workingOn 9 = .ok (.if_icmp .ge 47, 3) := by decide +kernel
theorem dX5_workingOn_12 : decode cX5_workingOn 12 = .ok (.iload_n 2, 1) := by decide +kernel
theorem dX5_workingOn_13 : decode cX5_workingOn 13 = .ok (.aload_n 0, 1) := by decide +kernel
theorem dX5_workingOn_14 : decode cX5_workingOn 14 = .ok (.getfield 25, 3) := by decide +kernel
theorem dX5_workingOn_17 : decode cX5_workingOn 17 = .ok (.bipush 64, 2) := by decide +kernel
theorem dX5_workingOn_19 : decode cX5_workingOn 19 = .ok (.iload_n 3, 1) := by decide +kernel
theorem dX5_workingOn_20 : decode cX5_workingOn 20 = .ok (.imul, 1) := by decide +kernel
theorem dX5_workingOn_21 : decode cX5_workingOn 21 = .ok (.iload_n 1, 1) := by decide +kernel
theorem dX5_workingOn_22 : decode cX5_workingOn 22 = .ok (.iadd, 1) := by decide +kernel
theorem dX5_workingOn_23 : decode cX5_workingOn 23 = .ok (.baload, 1) := by decide +kernel
theorem dX5_workingOn_24 : decode cX5_workingOn 24 = .ok (.ifCond .ne 23, 3) := by decide +kernel
theorem dX5_workingOn_27 : decode cX5_workingOn 27 = .ok (.aload_n 0, 1) := by decide +kernel
theorem dX5_workingOn_28 : decode cX5_workingOn 28 = .ok (.getfield 29, 3) := by decide +kernel
theorem dX5_workingOn_31 : decode cX5_workingOn 31 = .ok (.bipush 64, 2) := by decide +kernel
theorem dX5_workingOn_33 : decode cX5_workingOn 33 = .ok (.iload_n 3, 1) := by decide +kernel
theorem dX5_workingOn_34 : decode cX5_workingOn 34 = .ok (.imul, 1) := by decide +kernel
theorem dX5_workingOn_35 : decode cX5_workingOn 35 = .ok (.iload_n 1, 1) := by decide +kernel
theorem dX5_workingOn_36 : decode cX5_workingOn 36 = .ok (.iadd, 1) := by decide +kernel
theorem dX5_workingOn_37 : decode cX5_workingOn 37 = .ok (.iaload, 1) := by decide +kernel
theorem dX5_workingOn_38 : decode cX5_workingOn 38 = .ok (.ifCond .lt 9, 3) := by decide +kernel
theorem dX5_workingOn_41 : decode cX5_workingOn 41 = .ok (.iconst 1, 1) := by decide +kernel
theorem dX5_workingOn_42 : decode cX5_workingOn 42 = .ok (.iload_n 3, 1) := by decide +kernel
theorem dX5_workingOn_43 : decode cX5_workingOn 43 = .ok (.ishl, 1) := by decide +kernel
theorem dX5_workingOn_44 : decode cX5_workingOn 44 = .ok (.goto 4, 3) := by decide +kernel
theorem dX5_workingOn_47 : decode cX5_workingOn 47 = .ok (.iconst 0, 1) := by decide +kernel
theorem dX5_workingOn_48 : decode cX5_workingOn 48 = .ok (.ior, 1) := by decide +kernel
theorem dX5_workingOn_49 : decode cX5_workingOn 49 = .ok (.istore_n 2, 1) := by decide +kernel
theorem dX5_workingOn_50 : decode cX5_workingOn 50 = .ok (.iinc 3 1, 3) := by decide +kernel
theorem dX5_workingOn_53 : decode cX5_workingOn 53 = .ok (.goto (-49), 3) := by decide +kernel
theorem dX5_workingOn_56 : decode cX5_workingOn 56 = .ok (.iload_n 2, 1) := by decide +kernel
theorem dX5_workingOn_57 : decode cX5_workingOn 57 = .ok (.ireturn, 1) := by decide +kernel
set_option maxRecDepth 20000 in
theorem ggX5_working_X5_isDay : GoodIn wsX5_working wsX5_isDay := goodIn_r _ [4, 5, 6, 3, 7] (by decide +kernel) (by decide +kernel)
set_option maxRecDepth 20000 in
theorem gX5_working_X5_isDay : GoodIn wsX5_working (va_wsS RX5 84 yX5_isDay wsX5_isDay) := goodIn_app (goodIn_of _ (by decide +kernel)) ggX5_working_X5_isDay
set_option maxRecDepth 20000 in
theorem ggX5_working_X5_workingOn : GoodIn wsX5_working wsX5_workingOn := goodIn_r _ [11, 12, 13, 14, 15, 16, 17, 18, 19, 20, 21, 22, 23, 24, 25, 26, 27, 28, 29, 30, 31, 32, 33] (by decide +kernel) (by decide +kernel)
set_option maxRecDepth 20000 in
theorem gX5_working_X5_workingOn : GoodIn wsX5_working (wsV RX5 93 RX5 yX5_workingOn wsX5_workingOn) := goodIn_app (goodIn_of _ (by decide +kernel)) ggX5_working_X5_workingOn
theorem dX5_working_0 : decode cX5_working 0 = .ok (.iload_n 1, 1) := by decide +kernel
theorem dX5_working_1 : decode cX5_working 1 = .ok (.invokestatic 84, 3) := by decide +kernel
theorem dX5_working_4 : decode cX5_working 4 = .ok (.ifCond .eq 11, 3) := by decide +kernel
theorem dX5_working_7 : decode cX5_working 7 = .ok (.aload_n 0, 1) := by decide +kernel
theorem dX5_working_8 : decode cX5_working 8 = .ok (.iload_n 1, 1) := by decide +kernel
theorem dX5_working_9 : decode cX5_working 9 = .ok (.invokevirtual 93, 3) := by decide +kernel
theorem dX5_working_12 : decode cX5_working 12 = .ok (.goto 5, 3) := by decide +kernel
theorem dX5_working_15 : decode cX5_working 15 = .ok (.bipush (-2), 2) := by decide +kernel
theorem dX5_working_17 : decode cX5_working 17 = .ok (.ireturn, 1) := by decide +kernel
set_option maxRecDepth 20000 in
theorem ggX5_far_X5_square : GoodIn wsX5_far wsX5_square := goodIn_r _ [6] (by decide +kernel) (by decide +kernel)
set_option maxRecDepth 20000 in
theorem gX5_far_X5_square : GoodIn wsX5_far (va_wsS RX5 80 yX5_square wsX5_square) := goodIn_app (goodIn_of _ (by decide +kernel)) ggX5_far_X5_square
theorem dX5_far_0 : decode cX5_far 0 = .ok (.iload_n 2, 1) := by decide +kernel
theorem dX5_far_1 : decode cX5_far 1 = .ok (.aload_n 0, 1) := by decide +kernel
theorem dX5_far_2 : decode cX5_far 2 = .ok (.getfield 16, 3) := by decide +kernel
theorem dX5_far_5 : decode cX5_far 5 = .ok (.iload_n 1, 1) := by decide +kernel
theorem dX5_far_6 : decode cX5_far 6 = .ok (.iaload, 1) := by decide +kernel
theorem dX5_far_7 : decode cX5_far 7 = .ok (.isub, 1) := by decide +kernel
theorem dX5_far_8 : decode cX5_far 8 = .ok (.invokestatic 80, 3) := by decide +kernel
theorem dX5_far_11 : decode cX5_far 11 = .ok (.iload_n 3, 1) := by decide +kernel
theorem dX5_far_12 : decode cX5_far 12 = .ok (.aload_n 0, 1) := by decide +kernel
theorem dX5_far_13 : decode cX5_far 13 = .ok (.getfield 19, 3) := by decide +kernel
theorem dX5_far_16 : decode cX5_far 16 = .ok (.iload_n 1, 1) := by decide +kernel
theorem dX5_far_17 : decode cX5_far 17 = .ok (.iaload, 1) := by decide +kernel
theorem dX5_far_18 : decode cX5_far 18 = .ok (.isub, 1) := by decide +kernel
theorem dX5_far_19 : decode cX5_far 19 = .ok (.invokestatic 80, 3) := by decide +kernel
theorem dX5_far_22 : decode cX5_far 22 = .ok (.iadd, 1) := by decide +kernel
theorem dX5_far_23 : decode cX5_far 23 = .ok (.ireturn, 1) := by decide +kernel
set_option maxRecDepth 20000 in
theorem ggX5_ownerOf_X5_far : GoodIn wsX5_ownerOf wsX5_far := goodIn_r _ [7, 8, 9, 10, 11, 6, 12, 16, 17, 18, 19, 20, 21, 22, 23, 24, 25, 26, 27, 28, 29, 30, 31, 32, 33, 34] (by decide +kernel) (by decide +kernel)
set_option maxRecDepth 20000 in
theorem gX5_ownerOf_X5_far : GoodIn wsX5_ownerOf (wsV RX5 96 RX5 yX5_far wsX5_far) := goodIn_app (goodIn_of _ (by decide +kernel)) ggX5_ownerOf_X5_far
set_option maxRecDepth 20000 in
theorem ggX5_ownerOf_X5_has : GoodIn wsX5_ownerOf wsX5_has := goodIn_r _ [15] (by decide +kernel) (by decide +kernel)
set_option maxRecDepth 20000 in
theorem gX5_ownerOf_X5_has : GoodIn wsX5_ownerOf (va_wsS RX5 100 yX5_has wsX5_has) := goodIn_app (goodIn_of _ (by decide +kernel)) ggX5_ownerOf_X5_has
theorem dX5_ownerOf_0 : decode cX5_ownerOf 0 = .ok (.bipush (-6), 2) := by decide +kernel
theorem dX5_ownerOf_2 : decode cX5_ownerOf 2 = .ok (.istore 4, 2) := by decide +kernel
theorem dX5_ownerOf_4 : decode cX5_ownerOf 4 = .ok (.iconst 0, 1) := by decide +kernel
theorem dX5_ownerOf_5 : decode cX5_ownerOf 5 = .ok (.istore 5, 2) := by decide +kernel
theorem dX5_ownerOf_7 : decode cX5_ownerOf 7 = .ok (.iconst 0, 1) := by decide +kernel
theorem dX5_ownerOf_8 : decode cX5_ownerOf 8 = .ok (.istore 6, 2) := by decide +kernel
theorem dX5_ownerOf_10 : decode cX5_ownerOf 10 = .ok (.iload 6, 2) := by decide +kernel
theorem dX5_ownerOf_12 : decode cX5_ownerOf 12 = .ok (.aload_n 0, 1) := by decide +kernel
theorem dX5_ownerOf_13 : decode cX5_ownerOf 13 = .ok (.getfield 53, 3) := by decide +kernel
theorem dX5_ownerOf_16 : decode cX5_ownerOf 16 = .ok (.if_icmp .ge 56, 3) := by decide +kernel
theorem dX5_ownerOf_19 : decode cX5_ownerOf 19 = .ok (.aload_n 0, 1) := by decide +kernel
theorem dX5_ownerOf_20 : decode cX5_ownerOf 20 = .ok (.iload 6, 2) := by decide +kernel
theorem dX5_ownerOf_22 : decode cX5_ownerOf 22 = .ok (.iload_n 2, 1) := by decide +kernel
theorem dX5_ownerOf_23 : decode cX5_ownerOf 23 = .ok (.iload_n 3, 1) := by decide +kernel
theorem dX5_ownerOf_24 : decode cX5_ownerOf 24 = .ok (.invokevirtual 96, 3) := by decide +kernel
theorem dX5_ownerOf_27 : decode cX5_ownerOf 27 = .ok (.aload_n 0, 1) := by decide +kernel
theorem dX5_ownerOf_28 : decode cX5_ownerOf 28 = .ok (.getfield 22, 3) := by decide +kernel
theorem dX5_ownerOf_31 : decode cX5_ownerOf 31 = .ok (.iload 6, 2) := by decide +kernel
theorem dX5_ownerOf_33 : decode cX5_ownerOf 33 = .ok (.iaload, 1) := by decide +kernel
theorem dX5_ownerOf_34 : decode cX5_ownerOf 34 = .ok (.isub, 1) := by decide +kernel
theorem dX5_ownerOf_35 : decode cX5_ownerOf 35 = .ok (.istore 7, 2) := by decide +kernel
theorem dX5_ownerOf_37 : decode cX5_ownerOf 37 = .ok (.iload_n 1, 1) := by decide +kernel
theorem dX5_ownerOf_38 : decode cX5_ownerOf 38 = .ok (.iload 6, 2) := by decide +kernel
theorem dX5_ownerOf_40 : decode cX5_ownerOf 40 = .ok (.invokestatic 100, 3) := by decide +kernel
theorem dX5_ownerOf_43 : decode cX5_ownerOf 43 = .ok (.ifCond .eq 23, 3) := by decide +kernel
theorem dX5_ownerOf_46 : decode cX5_ownerOf 46 = .ok (.iload 4, 2) := by decide +kernel
theorem dX5_ownerOf_48 : decode cX5_ownerOf 48 = .ok (.ifCond .lt 10, 3) := by decide +kernel
theorem dX5_ownerOf_51 : decode cX5_ownerOf 51 = .ok (.iload 7, 2) := by decide +kernel
theorem dX5_ownerOf_53 : decode cX5_ownerOf 53 = .ok (.iload 5, 2) := by decide +kernel
theorem dX5_ownerOf_55 : decode cX5_ownerOf 55 = .ok (.if_icmp .ge 11, 3) := by decide +kernel
theorem dX5_ownerOf_58 : decode cX5_ownerOf 58 = .ok (.iload 6, 2) := by decide +kernel
theorem dX5_ownerOf_60 : decode cX5_ownerOf 60 = .ok (.istore 4, 2) := by decide +kernel
theorem dX5_ownerOf_62 : decode cX5_ownerOf 62 = .ok (.iload 7, 2) := by decide +kernel
theorem dX5_ownerOf_64 : decode cX5_ownerOf 64 = .ok (.istore 5, 2) := by decide +kernel
theorem dX5_ownerOf_66 : decode cX5_ownerOf 66 = .ok (.iinc 6 1, 3) := by decide +kernel
theorem dX5_ownerOf_69 : decode cX5_ownerOf 69 = .ok (.goto (-59), 3) := by decide +kernel
theorem dX5_ownerOf_72 : decode cX5_ownerOf 72 = .ok (.iload 4, 2) := by decide +kernel
theorem dX5_ownerOf_74 : decode cX5_ownerOf 74 = .ok (.ireturn, 1) := by decide +kernel
theorem dX5_lookUp_0 : decode cX5_lookUp 0 = .ok (.bipush (-6), 2) := by decide +kernel
theorem dX5_lookUp_2 : decode cX5_lookUp 2 = .ok (.istore_n 2, 1) := by decide +kernel
theorem dX5_lookUp_3 : decode cX5_lookUp 3 = .ok (.iconst 0, 1) := by decide +kernel
theorem dX5_lookUp_4 : decode cX5_lookUp 4 = .ok (.istore_n 3, 1) := by decide +kernel
theorem dX5_lookUp_5 : decode cX5_lookUp 5 = .ok (.iload_n 3, 1) := by decide +kernel
theorem dX5_lookUp_6 : decode cX5_lookUp 6 = .ok (.aload_n 0, 1) := by decide +kernel
theorem dX5_lookUp_7 : decode cX5_lookUp 7 = .ok (.getfield 61, 3) := by decide +kernel
theorem dX5_lookUp_10 : decode cX5_lookUp 10 = .ok (.if_icmp .ge 25, 3) := by decide +kernel
theorem dX5_lookUp_13 : decode cX5_lookUp 13 = .ok (.aload_n 0, 1) := by decide +kernel
theorem dX5_lookUp_14 : decode cX5_lookUp 14 = .ok (.getfield 32, 3) := by decide +kernel
theorem dX5_lookUp_17 : decode cX5_lookUp 17 = .ok (.iload_n 3, 1) := by decide +kernel
theorem dX5_lookUp_18 : decode cX5_lookUp 18 = .ok (.iaload, 1) := by decide +kernel
theorem dX5_lookUp_19 : decode cX5_lookUp 19 = .ok (.iload_n 1, 1) := by decide +kernel
theorem dX5_lookUp_20 : decode cX5_lookUp 20 = .ok (.if_icmp .ne 7, 3) := by decide +kernel
theorem dX5_lookUp_23 : decode cX5_lookUp 23 = .ok (.iload_n 3, 1) := by decide +kernel
theorem dX5_lookUp_24 : decode cX5_lookUp 24 = .ok (.goto 4, 3) := by decide +kernel
theorem dX5_lookUp_27 : decode cX5_lookUp 27 = .ok (.iload_n 2, 1) := by decide +kernel
theorem dX5_lookUp_28 : decode cX5_lookUp 28 = .ok (.istore_n 2, 1) := by decide +kernel
theorem dX5_lookUp_29 : decode cX5_lookUp 29 = .ok (.iinc 3 1, 3) := by decide +kernel
theorem dX5_lookUp_32 : decode cX5_lookUp 32 = .ok (.goto (-27), 3) := by decide +kernel
theorem dX5_lookUp_35 : decode cX5_lookUp 35 = .ok (.iload_n 1, 1) := by decide +kernel
theorem dX5_lookUp_36 : decode cX5_lookUp 36 = .ok (.ifCond .ne 4, 3) := by decide +kernel
theorem dX5_lookUp_39 : decode cX5_lookUp 39 = .ok (.return_, 1) := by decide +kernel
theorem dX5_lookUp_40 : decode cX5_lookUp 40 = .ok (.iload_n 2, 1) := by decide +kernel
theorem dX5_lookUp_41 : decode cX5_lookUp 41 = .ok (.ifCond .lt 16, 3) := by decide +kernel
theorem dX5_lookUp_44 : decode cX5_lookUp 44 = .ok (.aload_n 0, 1) := by decide +kernel
theorem dX5_lookUp_45 : decode cX5_lookUp 45 = .ok (.dup, 1) := by decide +kernel
theorem dX5_lookUp_46 : decode cX5_lookUp 46 = .ok (.getfield 103, 3) := by decide +kernel
theorem dX5_lookUp_49 : decode cX5_lookUp 49 = .ok (.iconst 1, 1) := by decide +kernel
theorem dX5_lookUp_50 : decode cX5_lookUp 50 = .ok (.iadd, 1) := by decide +kernel
theorem dX5_lookUp_51 : decode cX5_lookUp 51 = .ok (.putfield 103, 3) := by decide +kernel
theorem dX5_lookUp_54 : decode cX5_lookUp 54 = .ok (.goto 36, 3) := by decide +kernel
theorem dX5_lookUp_57 : decode cX5_lookUp 57 = .ok (.aload_n 0, 1) := by decide +kernel
theorem dX5_lookUp_58 : decode cX5_lookUp 58 = .ok (.dup, 1) := by decide +kernel
theorem dX5_lookUp_59 : decode cX5_lookUp 59 = .ok (.getfield 106, 3) := by decide +kernel
theorem dX5_lookUp_62 : decode cX5_lookUp 62 = .ok (.iconst 1, 1) := by decide +kernel
theorem dX5_lookUp_63 : decode cX5_lookUp 63 = .ok (.iadd, 1) := by decide +kernel
theorem dX5_lookUp_64 : decode cX5_lookUp 64 = .ok (.putfield 106, 3) := by decide +kernel
theorem dX5_lookUp_67 : decode cX5_lookUp 67 = .ok (.aload_n 0, 1) := by decide +kernel
theorem dX5_lookUp_68 : decode cX5_lookUp 68 = .ok (.dup, 1) := by decide +kernel
theorem dX5_lookUp_69 : decode cX5_lookUp 69 = .ok (.getfield 109, 3) := by decide +kernel
theorem dX5_lookUp_72 : decode cX5_lookUp 72 = .ok (.aload_n 0, 1) := by decide +kernel
theorem dX5_lookUp_73 : decode cX5_lookUp 73 = .ok (.getfield 61, 3) := by decide +kernel
theorem dX5_lookUp_76 : decode cX5_lookUp 76 = .ok (.bipush 6, 2) := by decide +kernel
theorem dX5_lookUp_78 : decode cX5_lookUp 78 = .ok (.if_icmp .ne 7, 3) := by decide +kernel
theorem dX5_lookUp_81 : decode cX5_lookUp 81 = .ok (.iconst 1, 1) := by decide +kernel
theorem dX5_lookUp_82 : decode cX5_lookUp 82 = .ok (.goto 4, 3) := by decide +kernel
theorem dX5_lookUp_85 : decode cX5_lookUp 85 = .ok (.iconst 0, 1) := by decide +kernel
theorem dX5_lookUp_86 : decode cX5_lookUp 86 = .ok (.iadd, 1) := by decide +kernel
theorem dX5_lookUp_87 : decode cX5_lookUp 87 = .ok (.putfield 109, 3) := by decide +kernel
theorem dX5_lookUp_90 : decode cX5_lookUp 90 = .ok (.iload_n 2, 1) := by decide +kernel
theorem dX5_lookUp_91 : decode cX5_lookUp 91 = .ok (.ifCond .lt 7, 3) := by decide +kernel
theorem dX5_lookUp_94 : decode cX5_lookUp 94 = .ok (.iload_n 2, 1) := by decide +kernel
theorem dX5_lookUp_95 : decode cX5_lookUp 95 = .ok (.goto 20, 3) := by decide +kernel
theorem dX5_lookUp_98 : decode cX5_lookUp 98 = .ok (.aload_n 0, 1) := by decide +kernel
theorem dX5_lookUp_99 : decode cX5_lookUp 99 = .ok (.getfield 61, 3) := by decide +kernel
theorem dX5_lookUp_102 : decode cX5_lookUp 102 = .ok (.bipush 6, 2) := by decide +kernel
theorem dX5_lookUp_104 : decode cX5_lookUp 104 = .ok (.if_icmp .ne 7, 3) := by decide +kernel
theorem dX5_lookUp_107 : decode cX5_lookUp 107 = .ok (.iconst 0, 1) := by decide +kernel
theorem dX5_lookUp_108 : decode cX5_lookUp 108 = .ok (.goto 7, 3) := by decide +kernel
theorem dX5_lookUp_111 : decode cX5_lookUp 111 = .ok (.aload_n 0, 1) := by decide +kernel
theorem dX5_lookUp_112 : decode cX5_lookUp 112 = .ok (.getfield 61, 3) := by decide +kernel
theorem dX5_lookUp_115 : decode cX5_lookUp 115 = .ok (.istore_n 3, 1) := by decide +kernel
theorem dX5_lookUp_116 : decode cX5_lookUp 116 = .ok (.aload_n 0, 1) := by decide +kernel
theorem dX5_lookUp_117 : decode cX5_lookUp 117 = .ok (.iload_n 2, 1) := by decide +kernel
theorem dX5_lookUp_118 : decode cX5_lookUp 118 = .ok (.ifCond .ge 12, 3) := by decide +kernel
theorem dX5_lookUp_121 : decode cX5_lookUp 121 = .ok (.aload_n 0, 1) := by decide +kernel
theorem dX5_lookUp_122 : decode cX5_lookUp 122 = .ok (.getfield 61, 3) := by decide +kernel
theorem dX5_lookUp_125 : decode cX5_lookUp 125 = .ok (.bipush 6, 2) := by decide +kernel
theorem dX5_lookUp_127 : decode cX5_lookUp 127 = .ok (.if_icmp .ne 10, 3) := by decide +kernel
theorem dX5_lookUp_130 : decode cX5_lookUp 130 = .ok (.aload_n 0, 1) := by decide +kernel
theorem dX5_lookUp_131 : decode cX5_lookUp 131 = .ok (.getfield 61, 3) := by decide +kernel
theorem dX5_lookUp_134 : decode cX5_lookUp 134 = .ok (.goto 9, 3) := by decide +kernel
theorem dX5_lookUp_137 : decode cX5_lookUp 137 = .ok (.aload_n 0, 1) := by decide +kernel
theorem dX5_lookUp_138 : decode cX5_lookUp 138 = .ok (.getfield 61, 3) := by decide +kernel
theorem dX5_lookUp_141 : decode cX5_lookUp 141 = .ok (.iconst 1, 1) := by decide +kernel
theorem dX5_lookUp_142 : decode cX5_lookUp 142 = .ok (.iadd, 1) := by decide +kernel
theorem dX5_lookUp_143 : decode cX5_lookUp 143 = .ok (.putfield 61, 3) := by decide +kernel
theorem dX5_lookUp_146 : decode cX5_lookUp 146 = .ok (.iload_n 3, 1) := by decide +kernel
theorem dX5_lookUp_147 : decode cX5_lookUp 147 = .ok (.istore 4, 2) := by decide +kernel
theorem dX5_lookUp_149 : decode cX5_lookUp 149 = .ok (.iload 4, 2) := by decide +kernel
theorem dX5_lookUp_151 : decode cX5_lookUp 151 = .ok (.aload_n 0, 1) := by decide +kernel
theorem dX5_lookUp_152 : decode cX5_lookUp 152 = .ok (.getfield 61, 3) := by decide +kernel
theorem dX5_lookUp_155 : decode cX5_lookUp 155 = .ok (.iconst 1, 1) := by decide +kernel
theorem dX5_lookUp_156 : decode cX5_lookUp 156 = .ok (.isub, 1) := by decide +kernel
theorem dX5_lookUp_157 : decode cX5_lookUp 157 = .ok (.if_icmp .ge 25, 3) := by decide +kernel
theorem dX5_lookUp_160 : decode cX5_lookUp 160 = .ok (.aload_n 0, 1) := by decide +kernel
theorem dX5_lookUp_161 : decode cX5_lookUp 161 = .ok (.getfield 32, 3) := by decide +kernel
theorem dX5_lookUp_164 : decode cX5_lookUp 164 = .ok (.iload 4, 2) := by decide +kernel
theorem dX5_lookUp_166 : decode cX5_lookUp 166 = .ok (.aload_n 0, 1) := by decide +kernel
theorem dX5_lookUp_167 : decode cX5_lookUp 167 = .ok (.getfield 32, 3) := by decide +kernel
theorem dX5_lookUp_170 : decode cX5_lookUp 170 = .ok (.iload 4, 2) := by decide +kernel
theorem dX5_lookUp_172 : decode cX5_lookUp 172 = .ok (.iconst 1, 1) := by decide +kernel
theorem dX5_lookUp_173 : decode cX5_lookUp 173 = .ok (.iadd, 1) := by decide +kernel
theorem dX5_lookUp_174 : decode cX5_lookUp 174 = .ok (.iaload, 1) := by decide +kernel
theorem dX5_lookUp_175 : decode cX5_lookUp 175 = .ok (.iastore, 1) := by decide +kernel
theorem dX5_lookUp_176 : decode cX5_lookUp 176 = .ok (.iinc 4 1, 3) := by decide +kernel
theorem dX5_lookUp_179 : decode cX5_lookUp 179 = .ok (.goto (-30), 3) := by decide +kernel
theorem dX5_lookUp_182 : decode cX5_lookUp 182 = .ok (.aload_n 0, 1) := by decide +kernel
theorem dX5_lookUp_183 : decode cX5_lookUp 183 = .ok (.getfield 32, 3) := by decide +kernel
theorem dX5_lookUp_186 : decode cX5_lookUp 186 = .ok (.aload_n 0, 1) := by decide +kernel
theorem dX5_lookUp_187 : decode cX5_lookUp 187 = .ok (.getfield 61, 3) := by decide +kernel
theorem dX5_lookUp_190 : decode cX5_lookUp 190 = .ok (.iconst 1, 1) := by decide +kernel
theorem dX5_lookUp_191 : decode cX5_lookUp 191 = .ok (.isub, 1) := by decide +kernel
theorem dX5_lookUp_192 : decode cX5_lookUp 192 = .ok (.iload_n 1, 1) := by decide +kernel
theorem dX5_lookUp_193 : decode cX5_lookUp 193 = .ok (.iastore, 1) := by decide +kernel
theorem dX5_lookUp_194 : decode cX5_lookUp 194 = .ok (.return_, 1) := by decide +kernel
set_option maxRecDepth 20000 in
theorem ggX5_owner_X5_isDay : GoodIn wsX5_owner wsX5_isDay := goodIn_r _ [4, 5, 6, 3, 7] (by decide +kernel) (by decide +kernel)
set_option maxRecDepth 20000 in
theorem gX5_owner_X5_isDay : GoodIn wsX5_owner (va_wsS RX5 84 yX5_isDay wsX5_isDay) := goodIn_app (goodIn_of _ (by decide +kernel)) ggX5_owner_X5_isDay
set_option maxRecDepth 20000 in
theorem ggX5_owner_X5_in : GoodIn wsX5_owner wsX5_in := goodIn_r _ [7] (by decide +kernel) (by decide +kernel)
set_option maxRecDepth 20000 in
theorem gX5_owner_X5_in : GoodIn wsX5_owner (va_wsS RX5 57 yX5_in wsX5_in) := goodIn_app (goodIn_of _ (by decide +kernel)) ggX5_owner_X5_in
set_option maxRecDepth 20000 in
theorem ggX5_owner_X5_isPlot : GoodIn wsX5_owner wsX5_isPlot := goodIn_r _ [11, 12, 13, 5, 6, 3, 7, 47, 48, 49, 50, 51, 52, 53, 54, 55, 56, 57, 58, 59, 60, 61, 62, 63, 64, 65] (by decide +kernel) (by decide +kernel)
set_option maxRecDepth 20000 in
theorem gX5_owner_X5_isPlot : GoodIn wsX5_owner (wsV RX5 112 RX5 yX5_isPlot wsX5_isPlot) := goodIn_app (goodIn_of _ (by decide +kernel)) ggX5_owner_X5_isPlot
set_option maxRecDepth 20000 in
theorem ggX5_owner_X5_workingOn : GoodIn wsX5_owner wsX5_workingOn := goodIn_r _ [17, 18, 19, 20, 47, 48, 49, 50, 51, 52, 53, 54, 55, 56, 57, 58, 59, 60, 61, 62, 63, 64, 65] (by decide +kernel) (by decide +kernel)
set_option maxRecDepth 20000 in
theorem gX5_owner_X5_workingOn : GoodIn wsX5_owner (wsV RX5 93 RX5 yX5_workingOn wsX5_workingOn) := goodIn_app (goodIn_of _ (by decide +kernel)) ggX5_owner_X5_workingOn
set_option maxRecDepth 20000 in
theorem ggX5_owner_X5_lookUp : GoodIn wsX5_owner wsX5_lookUp := goodIn_r _ [24, 25, 26, 27, 28, 29, 47, 48, 49, 50, 51, 52, 53, 54, 55, 56, 57, 58, 59, 60, 61, 62, 63, 64, 65] (by decide +kernel) (by decide +kernel)
set_option maxRecDepth 20000 in
theorem gX5_owner_X5_lookUp : GoodIn wsX5_owner (wsV RX5 115 RX5 yX5_lookUp wsX5_lookUp) := goodIn_app (goodIn_of _ (by decide +kernel)) ggX5_owner_X5_lookUp
set_option maxRecDepth 20000 in
theorem ggX5_owner_X5_ownerOf : GoodIn wsX5_owner wsX5_ownerOf := goodIn_r _ [33, 18, 34, 35, 36, 37, 3, 38, 39, 40, 41, 42, 43, 44, 45, 46, 47, 48, 49, 50, 51, 52, 53, 54, 55, 56, 57, 58, 59, 60, 61, 62, 63, 64, 65] (by decide +kernel) (by decide +kernel)
set_option maxRecDepth 20000 in
theorem gX5_owner_X5_ownerOf : GoodIn wsX5_owner (wsV RX5 119 RX5 yX5_ownerOf wsX5_ownerOf) := goodIn_app (goodIn_of _ (by decide +kernel)) ggX5_owner_X5_ownerOf
theorem dX5_owner_0 : decode cX5_owner 0 = .ok (.iload_n 1, 1) := by decide +kernel
theorem dX5_owner_1 : decode cX5_owner 1 = .ok (.invokestatic 84, 3) := by decide +kernel
theorem dX5_owner_4 : decode cX5_owner 4 = .ok (.ifCond .eq 23, 3) := by decide +kernel
theorem dX5_owner_7 : decode cX5_owner 7 = .ok (.iload_n 2, 1) := by decide +kernel
theorem dX5_owner_8 : decode cX5_owner 8 = .ok (.iconst 0, 1) := by decide +kernel
theorem dX5_owner_9 : decode cX5_owner 9 = .ok (.bipush 15, 2) := by decide +kernel
theorem dX5_owner_11 : decode cX5_owner 11 = .ok (.invokestatic 57, 3) := by decide +kernel
theorem dX5_owner_14 : decode cX5_owner 14 = .ok (.ifCond .eq 13, 3) := by decide +kernel
theorem dX5_owner_17 : decode cX5_owner 17 = .ok (.iload_n 3, 1) := by decide +kernel
theorem dX5_owner_18 : decode cX5_owner 18 = .ok (.iconst 0, 1) := by decide +kernel
theorem dX5_owner_19 : decode cX5_owner 19 = .ok (.bipush 15, 2) := by decide +kernel
theorem dX5_owner_21 : decode cX5_owner 21 = .ok (.invokestatic 57, 3) := by decide +kernel
theorem dX5_owner_24 : decode cX5_owner 24 = .ok (.ifCond .ne 6, 3) := by decide +kernel
theorem dX5_owner_27 : decode cX5_owner 27 = .ok (.bipush (-2), 2) := by decide +kernel
theorem dX5_owner_29 : decode cX5_owner 29 = .ok (.ireturn, 1) := by decide +kernel
theorem dX5_owner_30 : decode cX5_owner 30 = .ok (.aload_n 0, 1) := by decide +kernel
theorem dX5_owner_31 : decode cX5_owner 31 = .ok (.iload_n 2, 1) := by decide +kernel
theorem dX5_owner_32 : decode cX5_owner 32 = .ok (.iload_n 3, 1) := by decide +kernel
theorem dX5_owner_33 : decode cX5_owner 33 = .ok (.invokevirtual 112, 3) := by decide +kernel
theorem dX5_owner_36 : decode cX5_owner 36 = .ok (.ifCond .ne 6, 3) := by decide +kernel
theorem dX5_owner_39 : decode cX5_owner 39 = .ok (.bipush (-5), 2) := by decide +kernel
theorem dX5_owner_41 : decode cX5_owner 41 = .ok (.ireturn, 1) := by decide +kernel
theorem dX5_owner_42 : decode cX5_owner 42 = .ok (.aload_n 0, 1) := by decide +kernel
theorem dX5_owner_43 : decode cX5_owner 43 = .ok (.iload_n 1, 1) := by decide +kernel
theorem dX5_owner_44 : decode cX5_owner 44 = .ok (.invokevirtual 93, 3) := by decide +kernel
theorem dX5_owner_47 : decode cX5_owner 47 = .ok (.istore 4, 2) := by decide +kernel
theorem dX5_owner_49 : decode cX5_owner 49 = .ok (.aload_n 0, 1) := by decide +kernel
theorem dX5_owner_50 : decode cX5_owner 50 = .ok (.iload 4, 2) := by decide +kernel
theorem dX5_owner_52 : decode cX5_owner 52 = .ok (.invokevirtual 115, 3) := by decide +kernel
theorem dX5_owner_55 : decode cX5_owner 55 = .ok (.aload_n 0, 1) := by decide +kernel
theorem dX5_owner_56 : decode cX5_owner 56 = .ok (.iload 4, 2) := by decide +kernel
theorem dX5_owner_58 : decode cX5_owner 58 = .ok (.iload_n 2, 1) := by decide +kernel
theorem dX5_owner_59 : decode cX5_owner 59 = .ok (.iload_n 3, 1) := by decide +kernel
theorem dX5_owner_60 : decode cX5_owner 60 = .ok (.invokevirtual 119, 3) := by decide +kernel
theorem dX5_owner_63 : decode cX5_owner 63 = .ok (.ireturn, 1) := by decide +kernel
set_option maxRecDepth 20000 in
theorem ggX5_size_X5_isPlot : GoodIn wsX5_size wsX5_isPlot := goodIn_r _ [5, 6, 7, 8, 9, 4, 10, 29, 30, 31, 32, 33, 34, 35, 36, 37, 38, 39, 40, 41, 42, 43, 44, 45, 46, 47] (by decide +kernel) (by decide +kernel)
set_option maxRecDepth 20000 in
theorem gX5_size_X5_isPlot : GoodIn wsX5_size (wsV RX5 112 RX5 yX5_isPlot wsX5_isPlot) := goodIn_app (goodIn_of _ (by decide +kernel)) ggX5_size_X5_isPlot
set_option maxRecDepth 20000 in
theorem ggX5_size_X5_ownerOf : GoodIn wsX5_size wsX5_ownerOf := goodIn_r _ [14, 15, 16, 17, 18, 19, 4, 20, 21, 22, 23, 24, 25, 26, 27, 28, 29, 30, 31, 32, 33, 34, 35, 36, 37, 38, 39, 40, 41, 42, 43, 44, 45, 46, 47] (by decide +kernel) (by decide +kernel)
set_option maxRecDepth 20000 in
theorem gX5_size_X5_ownerOf : GoodIn wsX5_size (wsV RX5 119 RX5 yX5_ownerOf wsX5_ownerOf) := goodIn_app (goodIn_of _ (by decide +kernel)) ggX5_size_X5_ownerOf
theorem dX5_size_0 : decode cX5_size 0 = .ok (.iconst 0, 1) := by decide +kernel
theorem dX5_size_1 : decode cX5_size 1 = .ok (.istore_n 3, 1) := by decide +kernel
theorem dX5_size_2 : decode cX5_size 2 = .ok (.iconst 0, 1) := by decide +kernel
theorem dX5_size_3 : decode cX5_size 3 = .ok (.istore 4, 2) := by decide +kernel
theorem dX5_size_5 : decode cX5_size 5 = .ok (.iload 4, 2) := by decide +kernel
theorem dX5_size_7 : decode cX5_size 7 = .ok (.sipush 256, 3) := by decide +kernel
theorem dX5_size_10 : decode cX5_size 10 = .ok (.if_icmp .ge 53, 3) := by decide +kernel
theorem dX5_size_13 : decode cX5_size 13 = .ok (.iload_n 3, 1) := by decide +kernel
theorem dX5_size_14 : decode cX5_size 14 = .ok (.aload_n 0, 1) := by decide +kernel
theorem dX5_size_15 : decode cX5_size 15 = .ok (.iload 4, 2) := by decide +kernel
theorem dX5_size_17 : decode cX5_size 17 = .ok (.bipush 16, 2) := by decide +kernel
theorem dX5_size_19 : decode cX5_size 19 = .ok (.irem, 1) := by decide +kernel
theorem dX5_size_20 : decode cX5_size 20 = .ok (.iload 4, 2) := by decide +kernel
theorem dX5_size_22 : decode cX5_size 22 = .ok (.bipush 16, 2) := by decide +kernel
theorem dX5_size_24 : decode cX5_size 24 = .ok (.idiv, 1) := by decide +kernel
theorem dX5_size_25 : decode cX5_size 25 = .ok (.invokevirtual 112, 3) := by decide +kernel
theorem dX5_size_28 : decode cX5_size 28 = .ok (.ifCond .eq 26, 3) := by decide +kernel
theorem dX5_size_31 : decode cX5_size 31 = .ok (.aload_n 0, 1) := by decide +kernel
theorem dX5_size_32 : decode cX5_size 32 = .ok (.iload_n 1, 1) := by decide +kernel
theorem dX5_size_33 : decode cX5_size 33 = .ok (.iload 4, 2) := by decide +kernel
theorem dX5_size_35 : decode cX5_size 35 = .ok (.bipush 16, 2) := by decide +kernel
theorem dX5_size_37 : decode cX5_size 37 = .ok (.irem, 1) := by decide +kernel
theorem dX5_size_38 : decode cX5_size 38 = .ok (.iload 4, 2) := by decide +kernel
theorem dX5_size_40 : decode cX5_size 40 = .ok (.bipush 16, 2) := by decide +kernel
theorem dX5_size_42 : decode cX5_size 42 = .ok (.idiv, 1) := by decide +kernel
theorem dX5_size_43 : decode cX5_size 43 = .ok (.invokevirtual 119, 3) := by decide +kernel
theorem dX5_size_46 : decode cX5_size 46 = .ok (.iload_n 2, 1) := by decide +kernel
theorem dX5_size_47 : decode cX5_size 47 = .ok (.if_icmp .ne 7, 3) := by decide +kernel
theorem dX5_size_50 : decode cX5_size 50 = .ok (.iconst 1, 1) := by decide +kernel
theorem dX5_size_51 : decode cX5_size 51 = .ok (.goto 4, 3) := by decide +kernel
theorem dX5_size_54 : decode cX5_size 54 = .ok (.iconst 0, 1) := by decide +kernel
theorem dX5_size_55 : decode cX5_size 55 = .ok (.iadd, 1) := by decide +kernel
theorem dX5_size_56 : decode cX5_size 56 = .ok (.istore_n 3, 1) := by decide +kernel
theorem dX5_size_57 : decode cX5_size 57 = .ok (.iinc 4 1, 3) := by decide +kernel
theorem dX5_size_60 : decode cX5_size 60 = .ok (.goto (-55), 3) := by decide +kernel
theorem dX5_size_63 : decode cX5_size 63 = .ok (.iload_n 3, 1) := by decide +kernel
theorem dX5_size_64 : decode cX5_size 64 = .ok (.ireturn, 1) := by decide +kernel
theorem dX5_common_0 : decode cX5_common 0 = .ok (.iload_n 0, 1) := by decide +kernel
theorem dX5_common_1 : decode cX5_common 1 = .ok (.istore_n 2, 1) := by decide +kernel
theorem dX5_common_2 : decode cX5_common 2 = .ok (.iload_n 1, 1) := by decide +kernel
theorem dX5_common_3 : decode cX5_common 3 = .ok (.istore_n 3, 1) := by decide +kernel
theorem dX5_common_4 : decode cX5_common 4 = .ok (.iconst 0, 1) := by decide +kernel
theorem dX5_common_5 : decode cX5_common 5 = .ok (.istore 4, 2) := by decide +kernel
theorem dX5_common_7 : decode cX5_common 7 = .ok (.iload 4, 2) := by decide +kernel
theorem dX5_common_9 : decode cX5_common 9 = .ok (.bipush 100, 2) := by decide +kernel
theorem dX5_common_11 : decode cX5_common 11 = .ok (.if_icmp .ge 23, 3) := by decide +kernel
theorem dX5_common_14 : decode cX5_common 14 = .ok (.iload_n 3, 1) := by decide +kernel
theorem dX5_common_15 : decode cX5_common 15 = .ok (.ifCond .eq 19, 3) := by decide +kernel
theorem dX5_common_18 : decode cX5_common 18 = .ok (.iload_n 2, 1) := by decide +kernel
theorem dX5_common_19 : decode cX5_common 19 = .ok (.iload_n 3, 1) := by decide +kernel
theorem dX5_common_20 : decode cX5_common 20 = .ok (.irem, 1) := by decide +kernel
theorem dX5_common_21 : decode cX5_common 21 = .ok (.istore 5, 2) := by decide +kernel
theorem dX5_common_23 : decode cX5_common 23 = .ok (.iload_n 3, 1) := by decide +kernel
theorem dX5_common_24 : decode cX5_common 24 = .ok (.istore_n 2, 1) := by decide +kernel
theorem dX5_common_25 : decode cX5_common 25 = .ok (.iload 5, 2) := by decide +kernel
theorem dX5_common_27 : decode cX5_common 27 = .ok (.istore_n 3, 1) := by decide +kernel
theorem dX5_common_28 : decode cX5_common 28 = .ok (.iinc 4 1, 3) := by decide +kernel
theorem dX5_common_31 : decode cX5_common 31 = .ok (.goto (-24), 3) := by decide +kernel
theorem dX5_common_34 : decode cX5_common 34 = .ok (.iload_n 2, 1) := by decide +kernel
theorem dX5_common_35 : decode cX5_common 35 = .ok (.ireturn, 1) := by decide +kernel
set_option maxRecDepth 20000 in
theorem ggX5_part_X5_common : GoodIn wsX5_part wsX5_common := goodIn_r _ [4] (by decide +kernel) (by decide +kernel)
set_option maxRecDepth 20000 in
theorem gX5_part_X5_common : GoodIn wsX5_part (va_wsS RX5 122 yX5_common wsX5_common) := goodIn_app (goodIn_of _ (by decide +kernel)) ggX5_part_X5_common
theorem dX5_part_0 : decode cX5_part 0 = .ok (.iload_n 0, 1) := by decide +kernel
theorem dX5_part_1 : decode cX5_part 1 = .ok (.iload_n 1, 1) := by decide +kernel
theorem dX5_part_2 : decode cX5_part 2 = .ok (.invokestatic 122, 3) := by decide +kernel
theorem dX5_part_5 : decode cX5_part 5 = .ok (.istore_n 3, 1) := by decide +kernel
theorem dX5_part_6 : decode cX5_part 6 = .ok (.iload_n 2, 1) := by decide +kernel
theorem dX5_part_7 : decode cX5_part 7 = .ok (.ifCond .ne 9, 3) := by decide +kernel
theorem dX5_part_10 : decode cX5_part 10 = .ok (.iload_n 0, 1) := by decide +kernel
theorem dX5_part_11 : decode cX5_part 11 = .ok (.iload_n 3, 1) := by decide +kernel
theorem dX5_part_12 : decode cX5_part 12 = .ok (.idiv, 1) := by decide +kernel
theorem dX5_part_13 : decode cX5_part 13 = .ok (.goto 6, 3) := by decide +kernel
theorem dX5_part_16 : decode cX5_part 16 = .ok (.iload_n 1, 1) := by decide +kernel
theorem dX5_part_17 : decode cX5_part 17 = .ok (.iload_n 3, 1) := by decide +kernel
theorem dX5_part_18 : decode cX5_part 18 = .ok (.idiv, 1) := by decide +kernel
theorem dX5_part_19 : decode cX5_part 19 = .ok (.ireturn, 1) := by decide +kernel
set_option maxRecDepth 20000 in
theorem ggX5_farOf_X5_isPlot : GoodIn wsX5_farOf wsX5_isPlot := goodIn_r _ [5, 6, 7, 8, 9, 4, 10, 29, 30, 31, 32, 33, 34, 35, 36, 37, 38, 39, 40, 41, 42, 43, 44, 45, 46, 47] (by decide +kernel) (by decide +kernel)
set_option maxRecDepth 20000 in
theorem gX5_farOf_X5_isPlot : GoodIn wsX5_farOf (wsV RX5 112 RX5 yX5_isPlot wsX5_isPlot) := goodIn_app (goodIn_of _ (by decide +kernel)) ggX5_farOf_X5_isPlot
set_option maxRecDepth 20000 in
theorem ggX5_farOf_X5_ownerOf : GoodIn wsX5_farOf wsX5_ownerOf := goodIn_r _ [14, 15, 16, 17, 18, 19, 4, 20, 21, 22, 23, 24, 25, 26, 27, 28, 29, 30, 31, 32, 33, 34, 35, 36, 37, 38, 39, 40, 41, 42, 43, 44, 45, 46, 47] (by decide +kernel) (by decide +kernel)
set_option maxRecDepth 20000 in
theorem gX5_farOf_X5_ownerOf : GoodIn wsX5_farOf (wsV RX5 119 RX5 yX5_ownerOf wsX5_ownerOf) := goodIn_app (goodIn_of _ (by decide +kernel)) ggX5_farOf_X5_ownerOf
set_option maxRecDepth 20000 in
theorem ggX5_farOf_X5_far : GoodIn wsX5_farOf wsX5_far := goodIn_r _ [20, 21, 22, 23, 24, 4, 25, 29, 30, 31, 32, 33, 34, 35, 36, 37, 38, 39, 40, 41, 42, 43, 44, 45, 46, 47] (by decide +kernel) (by decide +kernel)
set_option maxRecDepth 20000 in
theorem gX5_farOf_X5_far : GoodIn wsX5_farOf (wsV RX5 96 RX5 yX5_far wsX5_far) := goodIn_app (goodIn_of _ (by decide +kernel)) ggX5_farOf_X5_far
theorem dX5_farOf_0 : decode cX5_farOf 0 = .ok (.iconst 0, 1) := by decide +kernel
theorem dX5_farOf_1 : decode cX5_farOf 1 = .ok (.istore_n 3, 1) := by decide +kernel
theorem dX5_farOf_2 : decode cX5_farOf 2 = .ok (.iconst 0, 1) := by decide +kernel
theorem dX5_farOf_3 : decode cX5_farOf 3 = .ok (.istore 4, 2) := by decide +kernel
theorem dX5_farOf_5 : decode cX5_farOf 5 = .ok (.iload 4, 2) := by decide +kernel
theorem dX5_farOf_7 : decode cX5_farOf 7 = .ok (.sipush 256, 3) := by decide +kernel
theorem dX5_farOf_10 : decode cX5_farOf 10 = .ok (.if_icmp .ge 67, 3) := by decide +kernel
theorem dX5_farOf_13 : decode cX5_farOf 13 = .ok (.iload_n 3, 1) := by decide +kernel
theorem dX5_farOf_14 : decode cX5_farOf 14 = .ok (.aload_n 0, 1) := by decide +kernel
theorem dX5_farOf_15 : decode cX5_farOf 15 = .ok (.iload 4, 2) := by decide +kernel
theorem dX5_farOf_17 : decode cX5_farOf 17 = .ok (.bipush 16, 2) := by decide +kernel
theorem dX5_farOf_19 : decode cX5_farOf 19 = .ok (.irem, 1) := by decide +kernel
theorem dX5_farOf_20 : decode cX5_farOf 20 = .ok (.iload 4, 2) := by decide +kernel
theorem dX5_farOf_22 : decode cX5_farOf 22 = .ok (.bipush 16, 2) := by decide +kernel
theorem dX5_farOf_24 : decode cX5_farOf 24 = .ok (.idiv, 1) := by decide +kernel
theorem dX5_farOf_25 : decode cX5_farOf 25 = .ok (.invokevirtual 112, 3) := by decide +kernel
theorem dX5_farOf_28 : decode cX5_farOf 28 = .ok (.ifCond .eq 40, 3) := by decide +kernel
theorem dX5_farOf_31 : decode cX5_farOf 31 = .ok (.aload_n 0, 1) := by decide +kernel
theorem dX5_farOf_32 : decode cX5_farOf 32 = .ok (.iload_n 1, 1) := by decide +kernel
theorem dX5_farOf_33 : decode cX5_farOf 33 = .ok (.iload 4, 2) := by decide +kernel
theorem dX5_farOf_35 : decode cX5_farOf 35 = .ok (.bipush 16, 2) := by decide +kernel
theorem dX5_farOf_37 : decode cX5_farOf 37 = .ok (.irem, 1) := by decide +kernel
theorem dX5_farOf_38 : decode cX5_farOf 38 = .ok (.iload 4, 2) := by decide +kernel
theorem dX5_farOf_40 : decode cX5_farOf 40 = .ok (.bipush 16, 2) := by decide +kernel
theorem dX5_farOf_42 : decode cX5_farOf 42 = .ok (.idiv, 1) := by decide +kernel
theorem dX5_farOf_43 : decode cX5_farOf 43 = .ok (.invokevirtual 119, 3) := by decide +kernel
theorem dX5_farOf_46 : decode cX5_farOf 46 = .ok (.iload_n 2, 1) := by decide +kernel
theorem dX5_farOf_47 : decode cX5_farOf 47 = .ok (.if_icmp .ne 21, 3) := by decide +kernel
theorem dX5_farOf_50 : decode cX5_farOf 50 = .ok (.aload_n 0, 1) := by decide +kernel
theorem dX5_farOf_51 : decode cX5_farOf 51 = .ok (.iload_n 2, 1) := by decide +kernel
theorem dX5_farOf_52 : decode cX5_farOf 52 = .ok (.iload 4, 2) := by decide +kernel
theorem dX5_farOf_54 : decode cX5_farOf 54 = .ok (.bipush 16, 2) := by decide +kernel
theorem dX5_farOf_56 : decode cX5_farOf 56 = .ok (.irem, 1) := by decide +kernel
theorem dX5_farOf_57 : decode cX5_farOf 57 = .ok (.iload 4, 2) := by decide +kernel
theorem dX5_farOf_59 : decode cX5_farOf 59 = .ok (.bipush 16, 2) := by decide +kernel
theorem dX5_farOf_61 : decode cX5_farOf 61 = .ok (.idiv, 1) := by decide +kernel
theorem dX5_farOf_62 : decode cX5_farOf 62 = .ok (.invokevirtual 96, 3) := by decide +kernel
theorem dX5_farOf_65 : decode cX5_farOf 65 = .ok (.goto 4, 3) := by decide +kernel
theorem dX5_farOf_68 : decode cX5_farOf 68 = .ok (.iconst 0, 1) := by decide +kernel
theorem dX5_farOf_69 : decode cX5_farOf 69 = .ok (.iadd, 1) := by decide +kernel
theorem dX5_farOf_70 : decode cX5_farOf 70 = .ok (.istore_n 3, 1) := by decide +kernel
theorem dX5_farOf_71 : decode cX5_farOf 71 = .ok (.iinc 4 1, 3) := by decide +kernel
theorem dX5_farOf_74 : decode cX5_farOf 74 = .ok (.goto (-69), 3) := by decide +kernel
theorem dX5_farOf_77 : decode cX5_farOf 77 = .ok (.iload_n 3, 1) := by decide +kernel
theorem dX5_farOf_78 : decode cX5_farOf 78 = .ok (.ireturn, 1) := by decide +kernel
set_option maxRecDepth 20000 in
theorem ggX5_cell_X5_isGauge : GoodIn wsX5_cell wsX5_isGauge := goodIn_r _ [5, 6, 7, 8, 4, 9, 69, 70, 71, 72, 73, 74, 75, 76, 77, 78, 79, 80, 81, 82, 83, 84, 85, 86, 87] (by decide +kernel) (by decide +kernel)
set_option maxRecDepth 20000 in
theorem gX5_cell_X5_isGauge : GoodIn wsX5_cell (wsV RX5 76 RX5 yX5_isGauge wsX5_isGauge) := goodIn_app (goodIn_of _ (by decide +kernel)) ggX5_cell_X5_isGauge
set_option maxRecDepth 20000 in
theorem ggX5_cell_X5_isDay : GoodIn wsX5_cell wsX5_isDay := goodIn_r _ [12, 7, 8, 4, 9] (by decide +kernel) (by decide +kernel)
set_option maxRecDepth 20000 in
theorem gX5_cell_X5_isDay : GoodIn wsX5_cell (va_wsS RX5 84 yX5_isDay wsX5_isDay) := goodIn_app (goodIn_of _ (by decide +kernel)) ggX5_cell_X5_isDay
set_option maxRecDepth 20000 in
theorem ggX5_cell_X5_in : GoodIn wsX5_cell wsX5_in := goodIn_r _ [9] (by decide +kernel) (by decide +kernel)
set_option maxRecDepth 20000 in
theorem gX5_cell_X5_in : GoodIn wsX5_cell (va_wsS RX5 57 yX5_in wsX5_in) := goodIn_app (goodIn_of _ (by decide +kernel)) ggX5_cell_X5_in
set_option maxRecDepth 20000 in
theorem ggX5_cell_X5_workingOn : GoodIn wsX5_cell wsX5_workingOn := goodIn_r _ [16, 6, 17, 18, 69, 70, 71, 72, 73, 74, 75, 76, 77, 78, 79, 80, 81, 82, 83, 84, 85, 86, 87] (by decide +kernel) (by decide +kernel)
set_option maxRecDepth 20000 in
theorem gX5_cell_X5_workingOn : GoodIn wsX5_cell (wsV RX5 93 RX5 yX5_workingOn wsX5_workingOn) := goodIn_app (goodIn_of _ (by decide +kernel)) ggX5_cell_X5_workingOn
set_option maxRecDepth 20000 in
theorem ggX5_cell_X5_lookUp : GoodIn wsX5_cell wsX5_lookUp := goodIn_r _ [22, 23, 24, 25, 26, 27, 69, 70, 71, 72, 73, 74, 75, 76, 77, 78, 79, 80, 81, 82, 83, 84, 85, 86, 87] (by decide +kernel) (by decide +kernel)
set_option maxRecDepth 20000 in
theorem gX5_cell_X5_lookUp : GoodIn wsX5_cell (wsV RX5 115 RX5 yX5_lookUp wsX5_lookUp) := goodIn_app (goodIn_of _ (by decide +kernel)) ggX5_cell_X5_lookUp
set_option maxRecDepth 20000 in
theorem ggX5_cell_X5_size : GoodIn wsX5_cell wsX5_size := goodIn_r _ [31, 32, 33, 34, 4, 35, 36, 37, 7, 8, 9, 38, 39, 40, 41, 6, 42, 43, 44, 45, 46, 47, 48, 49, 50, 51, 52, 53, 54, 69, 70, 71, 72, 73, 74, 75, 76, 77, 78, 79, 80, 81, 82, 83, 84, 85, 86, 87] (by decide +kernel) (by decide +kernel)
set_option maxRecDepth 20000 in
theorem gX5_cell_X5_size : GoodIn wsX5_cell (wsV RX5 125 RX5 yX5_size wsX5_size) := goodIn_app (goodIn_of _ (by decide +kernel)) ggX5_cell_X5_size
set_option maxRecDepth 20000 in
theorem ggX5_cell_X5_farOf : GoodIn wsX5_cell wsX5_farOf := goodIn_r _ [58, 32, 33, 34, 4, 35, 36, 37, 7, 8, 9, 38, 39, 40, 41, 6, 42, 43, 44, 45, 46, 47, 48, 49, 50, 51, 52, 53, 54, 69, 70, 71, 72, 73, 74, 75, 76, 77, 78, 79, 80, 81, 82, 83, 84, 85, 86, 87] (by decide +kernel) (by decide +kernel)
set_option maxRecDepth 20000 in
theorem gX5_cell_X5_farOf : GoodIn wsX5_cell (wsV RX5 128 RX5 yX5_farOf wsX5_farOf) := goodIn_app (goodIn_of _ (by decide +kernel)) ggX5_cell_X5_farOf
set_option maxRecDepth 20000 in
theorem ggX5_cell_X5_plots : GoodIn wsX5_cell wsX5_plots := goodIn_r _ [62, 36, 37, 69, 70, 71, 72, 73, 74, 75, 76, 77, 78, 79, 80, 81, 82, 83, 84, 85, 86, 87] (by decide +kernel) (by decide +kernel)
set_option maxRecDepth 20000 in
theorem gX5_cell_X5_plots : GoodIn wsX5_cell (wsV RX5 64 RX5 yX5_plots wsX5_plots) := goodIn_app (goodIn_of _ (by decide +kernel)) ggX5_cell_X5_plots
set_option maxRecDepth 20000 in
theorem ggX5_cell_X5_part : GoodIn wsX5_cell wsX5_part := goodIn_r _ [65, 66, 67, 4, 68] (by decide +kernel) (by decide +kernel)
set_option maxRecDepth 20000 in
theorem gX5_cell_X5_part : GoodIn wsX5_cell (va_wsS RX5 131 yX5_part wsX5_part) := goodIn_app (goodIn_of _ (by decide +kernel)) ggX5_cell_X5_part
theorem dX5_cell_0 : decode cX5_cell 0 = .ok (.aload_n 0, 1) := by decide +kernel
theorem dX5_cell_1 : decode cX5_cell 1 = .ok (.iload_n 2, 1) := by decide +kernel
theorem dX5_cell_2 : decode cX5_cell 2 = .ok (.invokevirtual 76, 3) := by decide +kernel
theorem dX5_cell_5 : decode cX5_cell 5 = .ok (.ifCond .ne 5, 3) := by decide +kernel
theorem dX5_cell_8 : decode cX5_cell 8 = .ok (.iconst (-1), 1) := by decide +kernel
theorem dX5_cell_9 : decode cX5_cell 9 = .ok (.ireturn, 1) := by decide +kernel
theorem dX5_cell_10 : decode cX5_cell 10 = .ok (.iload_n 1, 1) := by decide +kernel
theorem dX5_cell_11 : decode cX5_cell 11 = .ok (.invokestatic 84, 3) := by decide +kernel
theorem dX5_cell_14 : decode cX5_cell 14 = .ok (.ifCond .eq 12, 3) := by decide +kernel
theorem dX5_cell_17 : decode cX5_cell 17 = .ok (.iload_n 3, 1) := by decide +kernel
theorem dX5_cell_18 : decode cX5_cell 18 = .ok (.iconst 0, 1) := by decide +kernel
theorem dX5_cell_19 : decode cX5_cell 19 = .ok (.iconst 3, 1) := by decide +kernel
theorem dX5_cell_20 : decode cX5_cell 20 = .ok (.invokestatic 57, 3) := by decide +kernel
theorem dX5_cell_23 : decode cX5_cell 23 = .ok (.ifCond .ne 6, 3) := by decide +kernel
theorem dX5_cell_26 : decode cX5_cell 26 = .ok (.bipush (-2), 2) := by decide +kernel
theorem dX5_cell_28 : decode cX5_cell 28 = .ok (.ireturn, 1) := by decide +kernel
theorem dX5_cell_29 : decode cX5_cell 29 = .ok (.aload_n 0, 1) := by decide +kernel
theorem dX5_cell_30 : decode cX5_cell 30 = .ok (.iload_n 1, 1) := by decide +kernel
theorem dX5_cell_31 : decode cX5_cell 31 = .ok (.invokevirtual 93, 3) := by decide +kernel
theorem dX5_cell_34 : decode cX5_cell 34 = .ok (.istore 4, 2) := by decide +kernel
theorem dX5_cell_36 : decode cX5_cell 36 = .ok (.aload_n 0, 1) := by decide +kernel
theorem dX5_cell_37 : decode cX5_cell 37 = .ok (.iload 4, 2) := by decide +kernel
theorem dX5_cell_39 : decode cX5_cell 39 = .ok (.invokevirtual 115, 3) := by decide +kernel
theorem dX5_cell_42 : decode cX5_cell 42 = .ok (.aload_n 0, 1) := by decide +kernel
theorem dX5_cell_43 : decode cX5_cell 43 = .ok (.iload 4, 2) := by decide +kernel
theorem dX5_cell_45 : decode cX5_cell 45 = .ok (.iload_n 2, 1) := by decide +kernel
theorem dX5_cell_46 : decode cX5_cell 46 = .ok (.invokevirtual 125, 3) := by decide +kernel
theorem dX5_cell_49 : decode cX5_cell 49 = .ok (.istore 5, 2) := by decide +kernel
theorem dX5_cell_51 : decode cX5_cell 51 = .ok (.iload_n 3, 1) := by decide +kernel
theorem dX5_cell_52 : decode cX5_cell 52 = .ok (.ifCond .ne 6, 3) := by decide +kernel
theorem dX5_cell_55 : decode cX5_cell 55 = .ok (.iload 5, 2) := by decide +kernel
theorem dX5_cell_57 : decode cX5_cell 57 = .ok (.ireturn, 1) := by decide +kernel
theorem dX5_cell_58 : decode cX5_cell 58 = .ok (.iload_n 3, 1) := by decide +kernel
theorem dX5_cell_59 : decode cX5_cell 59 = .ok (.iconst 3, 1) := by decide +kernel
theorem dX5_cell_60 : decode cX5_cell 60 = .ok (.if_icmp .ne 11, 3) := by decide +kernel
theorem dX5_cell_63 : decode cX5_cell 63 = .ok (.aload_n 0, 1) := by decide +kernel
theorem dX5_cell_64 : decode cX5_cell 64 = .ok (.iload 4, 2) := by decide +kernel
theorem dX5_cell_66 : decode cX5_cell 66 = .ok (.iload_n 2, 1) := by decide +kernel
theorem dX5_cell_67 : decode cX5_cell 67 = .ok (.invokevirtual 128, 3) := by decide +kernel
theorem dX5_cell_70 : decode cX5_cell 70 = .ok (.ireturn, 1) := by decide +kernel
theorem dX5_cell_71 : decode cX5_cell 71 = .ok (.iload 5, 2) := by decide +kernel
theorem dX5_cell_73 : decode cX5_cell 73 = .ok (.ifCond .ne 9, 3) := by decide +kernel
theorem dX5_cell_76 : decode cX5_cell 76 = .ok (.iload_n 3, 1) := by decide +kernel
theorem dX5_cell_77 : decode cX5_cell 77 = .ok (.iconst 1, 1) := by decide +kernel
theorem dX5_cell_78 : decode cX5_cell 78 = .ok (.isub, 1) := by decide +kernel
theorem dX5_cell_79 : decode cX5_cell 79 = .ok (.goto 15, 3) := by decide +kernel
theorem dX5_cell_82 : decode cX5_cell 82 = .ok (.iload 5, 2) := by decide +kernel
theorem dX5_cell_84 : decode cX5_cell 84 = .ok (.aload_n 0, 1) := by decide +kernel
theorem dX5_cell_85 : decode cX5_cell 85 = .ok (.invokevirtual 64, 3) := by decide +kernel
theorem dX5_cell_88 : decode cX5_cell 88 = .ok (.iload_n 3, 1) := by decide +kernel
theorem dX5_cell_89 : decode cX5_cell 89 = .ok (.iconst 1, 1) := by decide +kernel
theorem dX5_cell_90 : decode cX5_cell 90 = .ok (.isub, 1) := by decide +kernel
theorem dX5_cell_91 : decode cX5_cell 91 = .ok (.invokestatic 131, 3) := by decide +kernel
theorem dX5_cell_94 : decode cX5_cell 94 = .ok (.ireturn, 1) := by decide +kernel
set_option maxRecDepth 20000 in
theorem ggX5_at_X5_in : GoodIn wsX5_at wsX5_in := goodIn_r _ [4] (by decide +kernel) (by decide +kernel)
set_option maxRecDepth 20000 in
theorem gX5_at_X5_in : GoodIn wsX5_at (va_wsS RX5 57 yX5_in wsX5_in) := goodIn_app (goodIn_of _ (by decide +kernel)) ggX5_at_X5_in
set_option maxRecDepth 20000 in
theorem ggX5_at_X5_isPlot : GoodIn wsX5_at wsX5_isPlot := goodIn_r _ [8, 9, 10, 1, 2, 3, 4, 29, 30, 31, 32, 33, 34, 35, 36, 37, 38, 39, 40, 41, 42, 43, 44, 45, 46, 47] (by decide +kernel) (by decide +kernel)
set_option maxRecDepth 20000 in
theorem gX5_at_X5_isPlot : GoodIn wsX5_at (wsV RX5 112 RX5 yX5_isPlot wsX5_isPlot) := goodIn_app (goodIn_of _ (by decide +kernel)) ggX5_at_X5_isPlot
set_option maxRecDepth 20000 in
theorem ggX5_at_X5_ownerOf : GoodIn wsX5_at wsX5_ownerOf := goodIn_r _ [14, 15, 16, 17, 18, 19, 3, 20, 21, 22, 23, 24, 25, 26, 27, 28, 29, 30, 31, 32, 33, 34, 35, 36, 37, 38, 39, 40, 41, 42, 43, 44, 45, 46, 47] (by decide +kernel) (by decide +kernel)
set_option maxRecDepth 20000 in
theorem gX5_at_X5_ownerOf : GoodIn wsX5_at (wsV RX5 119 RX5 yX5_ownerOf wsX5_ownerOf) := goodIn_app (goodIn_of _ (by decide +kernel)) ggX5_at_X5_ownerOf
theorem dX5_at_0 : decode cX5_at 0 = .ok (.iload_n 2, 1) := by decide +kernel
theorem dX5_at_1 : decode cX5_at 1 = .ok (.iconst 0, 1) := by decide +kernel
theorem dX5_at_2 : decode cX5_at 2 = .ok (.bipush 15, 2) := by decide +kernel
theorem dX5_at_4 : decode cX5_at 4 = .ok (.invokestatic 57, 3) := by decide +kernel
theorem dX5_at_7 : decode cX5_at 7 = .ok (.ifCond .eq 22, 3) := by decide +kernel
theorem dX5_at_10 : decode cX5_at 10 = .ok (.aload_n 0, 1) := by decide +kernel
theorem dX5_at_11 : decode cX5_at 11 = .ok (.iload_n 2, 1) := by decide +kernel
theorem dX5_at_12 : decode cX5_at 12 = .ok (.iload_n 3, 1) := by decide +kernel
theorem dX5_at_13 : decode cX5_at 13 = .ok (.invokevirtual 112, 3) := by decide +kernel
theorem dX5_at_16 : decode cX5_at 16 = .ok (.ifCond .eq 13, 3) := by decide +kernel
theorem dX5_at_19 : decode cX5_at 19 = .ok (.aload_n 0, 1) := by decide +kernel
theorem dX5_at_20 : decode cX5_at 20 = .ok (.iload_n 1, 1) := by decide +kernel
theorem dX5_at_21 : decode cX5_at 21 = .ok (.iload_n 2, 1) := by decide +kernel
theorem dX5_at_22 : decode cX5_at 22 = .ok (.iload_n 3, 1) := by decide +kernel
theorem dX5_at_23 : decode cX5_at 23 = .ok (.invokevirtual 119, 3) := by decide +kernel
theorem dX5_at_26 : decode cX5_at 26 = .ok (.goto 5, 3) := by decide +kernel
theorem dX5_at_29 : decode cX5_at 29 = .ok (.bipush (-6), 2) := by decide +kernel
theorem dX5_at_31 : decode cX5_at 31 = .ok (.ireturn, 1) := by decide +kernel
set_option maxRecDepth 20000 in
theorem ggX5_touching_X5_at : GoodIn wsX5_touching wsX5_at := goodIn_r _ [5, 6, 7, 4, 8, 9, 10, 11, 12, 13, 14, 15, 16, 17, 18, 19, 20, 21, 22, 23, 24, 25, 26, 27, 28, 29, 30, 31, 32, 33, 34, 35, 36, 37, 38, 39, 40, 41, 42, 43, 44, 45, 46, 47, 48, 49, 50, 51] (by decide +kernel) (by decide +kernel)
set_option maxRecDepth 20000 in
theorem gX5_touching_X5_at : GoodIn wsX5_touching (wsV RX5 134 RX5 yX5_at wsX5_at) := goodIn_app (goodIn_of _ (by decide +kernel)) ggX5_touching_X5_at
theorem dX5_touching_0 : decode cX5_touching 0 = .ok (.aload_n 0, 1) := by decide +kernel
theorem dX5_touching_1 : decode cX5_touching 1 = .ok (.iload_n 1, 1) := by decide +kernel
theorem dX5_touching_2 : decode cX5_touching 2 = .ok (.iload_n 2, 1) := by decide +kernel
theorem dX5_touching_3 : decode cX5_touching 3 = .ok (.iconst 1, 1) := by decide +kernel
theorem dX5_touching_4 : decode cX5_touching 4 = .ok (.isub, 1) := by decide +kernel
theorem dX5_touching_5 : decode cX5_touching 5 = .ok (.iload_n 3, 1) := by decide +kernel
theorem dX5_touching_6 : decode cX5_touching 6 = .ok (.invokevirtual 134, 3) := by decide +kernel
theorem dX5_touching_9 : decode cX5_touching 9 = .ok (.iload 4, 2) := by decide +kernel
theorem dX5_touching_11 : decode cX5_touching 11 = .ok (.if_icmp .ne 7, 3) := by decide +kernel
theorem dX5_touching_14 : decode cX5_touching 14 = .ok (.iconst 1, 1) := by decide +kernel
theorem dX5_touching_15 : decode cX5_touching 15 = .ok (.goto 4, 3) := by decide +kernel
theorem dX5_touching_18 : decode cX5_touching 18 = .ok (.iconst 0, 1) := by decide +kernel
theorem dX5_touching_19 : decode cX5_touching 19 = .ok (.aload_n 0, 1) := by decide +kernel
theorem dX5_touching_20 : decode cX5_touching 20 = .ok (.iload_n 1, 1) := by decide +kernel
theorem dX5_touching_21 : decode cX5_touching 21 = .ok (.iload_n 2, 1) := by decide +kernel
theorem dX5_touching_22 : decode cX5_touching 22 = .ok (.iconst 1, 1) := by decide +kernel
theorem dX5_touching_23 : decode cX5_touching 23 = .ok (.iadd, 1) := by decide +kernel
theorem dX5_touching_24 : decode cX5_touching 24 = .ok (.iload_n 3, 1) := by decide +kernel
theorem dX5_touching_25 : decode cX5_touching 25 = .ok (.invokevirtual 134, 3) := by decide +kernel
theorem dX5_touching_28 : decode cX5_touching 28 = .ok (.iload 4, 2) := by decide +kernel
theorem dX5_touching_30 : decode cX5_touching 30 = .ok (.if_icmp .ne 7, 3) := by decide +kernel
theorem dX5_touching_33 : decode cX5_touching 33 = .ok (.iconst 1, 1) := by decide +kernel
theorem dX5_touching_34 : decode cX5_touching 34 = .ok (.goto 4, 3) := by decide +kernel
theorem dX5_touching_37 : decode cX5_touching 37 = .ok (.iconst 0, 1) := by decide +kernel
theorem dX5_touching_38 : decode cX5_touching 38 = .ok (.iadd, 1) := by decide +kernel
theorem dX5_touching_39 : decode cX5_touching 39 = .ok (.aload_n 0, 1) := by decide +kernel
theorem dX5_touching_40 : decode cX5_touching 40 = .ok (.iload_n 1, 1) := by decide +kernel
theorem dX5_touching_41 : decode cX5_touching 41 = .ok (.iload_n 2, 1) := by decide +kernel
theorem dX5_touching_42 : decode cX5_touching 42 = .ok (.iload_n 3, 1) := by decide +kernel
theorem dX5_touching_43 : decode cX5_touching 43 = .ok (.iconst 1, 1) := by decide +kernel
theorem dX5_touching_44 : decode cX5_touching 44 = .ok (.isub, 1) := by decide +kernel
theorem dX5_touching_45 : decode cX5_touching 45 = .ok (.invokevirtual 134, 3) := by decide +kernel
theorem dX5_touching_48 : decode cX5_touching 48 = .ok (.iload 4, 2) := by decide +kernel
theorem dX5_touching_50 : decode cX5_touching 50 = .ok (.if_icmp .ne 7, 3) := by decide +kernel
theorem dX5_touching_53 : decode cX5_touching 53 = .ok (.iconst 1, 1) := by decide +kernel
theorem dX5_touching_54 : decode cX5_touching 54 = .ok (.goto 4, 3) := by decide +kernel
theorem dX5_touching_57 : decode cX5_touching 57 = .ok (.iconst 0, 1) := by decide +kernel
theorem dX5_touching_58 : decode cX5_touching 58 = .ok (.iadd, 1) := by decide +kernel
theorem dX5_touching_59 : decode cX5_touching 59 = .ok (.aload_n 0, 1) := by decide +kernel
theorem dX5_touching_60 : decode cX5_touching 60 = .ok (.iload_n 1, 1) := by decide +kernel
theorem dX5_touching_61 : decode cX5_touching 61 = .ok (.iload_n 2, 1) := by decide +kernel
theorem dX5_touching_62 : decode cX5_touching 62 = .ok (.iload_n 3, 1) := by decide +kernel
theorem dX5_touching_63 : decode cX5_touching 63 = .ok (.iconst 1, 1) := by decide +kernel
theorem dX5_touching_64 : decode cX5_touching 64 = .ok (.iadd, 1) := by decide +kernel
theorem dX5_touching_65 : decode cX5_touching 65 = .ok (.invokevirtual 134, 3) := by decide +kernel
theorem dX5_touching_68 : decode cX5_touching 68 = .ok (.iload 4, 2) := by decide +kernel
theorem dX5_touching_70 : decode cX5_touching 70 = .ok (.if_icmp .ne 7, 3) := by decide +kernel
theorem dX5_touching_73 : decode cX5_touching 73 = .ok (.iconst 1, 1) := by decide +kernel
theorem dX5_touching_74 : decode cX5_touching 74 = .ok (.goto 4, 3) := by decide +kernel
theorem dX5_touching_77 : decode cX5_touching 77 = .ok (.iconst 0, 1) := by decide +kernel
theorem dX5_touching_78 : decode cX5_touching 78 = .ok (.iadd, 1) := by decide +kernel
theorem dX5_touching_79 : decode cX5_touching 79 = .ok (.ireturn, 1) := by decide +kernel
set_option maxRecDepth 20000 in
theorem ggX5_sides_X5_at : GoodIn wsX5_sides wsX5_at := goodIn_r _ [5, 6, 7, 4, 8, 9, 10, 11, 12, 13, 14, 15, 16, 17, 18, 19, 20, 21, 22, 23, 24, 25, 26, 27, 28, 29, 30, 31, 32, 37, 38, 39, 40, 41, 42, 43, 44, 45, 46, 47, 48, 49, 50, 51, 52, 53, 54, 55] (by decide +kernel) (by decide +kernel)
set_option maxRecDepth 20000 in
theorem gX5_sides_X5_at : GoodIn wsX5_sides (wsV RX5 134 RX5 yX5_at wsX5_at) := goodIn_app (goodIn_of _ (by decide +kernel)) ggX5_sides_X5_at
set_option maxRecDepth 20000 in
theorem ggX5_sides_X5_touching : GoodIn wsX5_sides wsX5_touching := goodIn_r _ [36, 1, 2, 3, 4, 5, 6, 7, 8, 9, 10, 11, 12, 13, 14, 15, 16, 17, 18, 19, 20, 21, 22, 23, 24, 25, 26, 27, 28, 29, 30, 31, 32, 37, 38, 39, 40, 41, 42, 43, 44, 45, 46, 47, 48, 49, 50, 51, 52, 53, 54, 55] (by decide +kernel) (by decide +kernel)
set_option maxRecDepth 20000 in
theorem gX5_sides_X5_touching : GoodIn wsX5_sides (wsV RX5 137 RX5 yX5_touching wsX5_touching) := goodIn_app (goodIn_of _ (by decide +kernel)) ggX5_sides_X5_touching
theorem dX5_sides_0 : decode cX5_sides 0 = .ok (.iconst 0, 1) := by decide +kernel
theorem dX5_sides_1 : decode cX5_sides 1 = .ok (.istore 4, 2) := by decide +kernel
theorem dX5_sides_3 : decode cX5_sides 3 = .ok (.iconst 0, 1) := by decide +kernel
theorem dX5_sides_4 : decode cX5_sides 4 = .ok (.istore 5, 2) := by decide +kernel
theorem dX5_sides_6 : decode cX5_sides 6 = .ok (.iload 5, 2) := by decide +kernel
theorem dX5_sides_8 : decode cX5_sides 8 = .ok (.sipush 256, 3) := by decide +kernel
theorem dX5_sides_11 : decode cX5_sides 11 = .ok (.if_icmp .ge 53, 3) := by decide +kernel
theorem dX5_sides_14 : decode cX5_sides 14 = .ok (.iload 4, 2) := by decide +kernel
theorem dX5_sides_16 : decode cX5_sides 16 = .ok (.aload_n 0, 1) := by decide +kernel
theorem dX5_sides_17 : decode cX5_sides 17 = .ok (.iload_n 1, 1) := by decide +kernel
theorem dX5_sides_18 : decode cX5_sides 18 = .ok (.iload 5, 2) := by decide +kernel
theorem dX5_sides_20 : decode cX5_sides 20 = .ok (.bipush 16, 2) := by decide +kernel
theorem dX5_sides_22 : decode cX5_sides 22 = .ok (.irem, 1) := by decide +kernel
theorem dX5_sides_23 : decode cX5_sides 23 = .ok (.iload 5, 2) := by decide +kernel
theorem dX5_sides_25 : decode cX5_sides 25 = .ok (.bipush 16, 2) := by decide +kernel
theorem dX5_sides_27 : decode cX5_sides 27 = .ok (.idiv, 1) := by decide +kernel
theorem dX5_sides_28 : decode cX5_sides 28 = .ok (.invokevirtual 134, 3) := by decide +kernel
theorem dX5_sides_31 : decode cX5_sides 31 = .ok (.iload_n 2, 1) := by decide +kernel
theorem dX5_sides_32 : decode cX5_sides 32 = .ok (.if_icmp .ne 22, 3) := by decide +kernel
theorem dX5_sides_35 : decode cX5_sides 35 = .ok (.aload_n 0, 1) := by decide +kernel
theorem dX5_sides_36 : decode cX5_sides 36 = .ok (.iload_n 1, 1) := by decide +kernel
end
section
theorem dX5_sides_37 : decode cX5_sides 37 = .ok (.iload 5, 2) := by decide +kernel
theorem dX5_sides_39 : decode cX5_sides 39 = .ok (.bipush 16, 2) := by decide +kernel
theorem dX5_sides_41 : decode cX5_sides 41 = .ok (.irem, 1) := by decide +kernel
theorem dX5_sides_42 : decode cX5_sides 42 = .ok (.iload 5, 2) := by decide +kernel
theorem dX5_sides_44 : decode cX5_sides 44 = .ok (.bipush 16, 2) := by decide +kernel
theorem dX5_sides_46 : decode cX5_sides 46 = .ok (.idiv, 1) := by decide +kernel
theorem dX5_sides_47 : decode cX5_sides 47 = .ok (.iload_n 3, 1) := by decide +kernel
theorem dX5_sides_48 : decode cX5_sides 48 = .ok (.invokevirtual 137, 3) := by decide +kernel
theorem dX5_sides_51 : decode cX5_sides 51 = .ok (.goto 4, 3) := by decide +kernel
theorem dX5_sides_54 : decode cX5_sides 54 = .ok (.iconst 0, 1) := by decide +kernel
theorem dX5_sides_55 : decode cX5_sides 55 = .ok (.iadd, 1) := by decide +kernel
theorem dX5_sides_56 : decode cX5_sides 56 = .ok (.istore 4, 2) := by decide +kernel
theorem dX5_sides_58 : decode cX5_sides 58 = .ok (.iinc 5 1, 3) := by decide +kernel
theorem dX5_sides_61 : decode cX5_sides 61 = .ok (.goto (-55), 3) := by decide +kernel
theorem dX5_sides_64 : decode cX5_sides 64 = .ok (.iload 4, 2) := by decide +kernel
theorem dX5_sides_66 : decode cX5_sides 66 = .ok (.ireturn, 1) := by decide +kernel
set_option maxRecDepth 20000 in
theorem ggX5_border_X5_isGauge : GoodIn wsX5_border wsX5_isGauge := goodIn_r _ [5, 6, 7, 8, 4, 9, 63, 64, 65, 66, 67, 68, 69, 70, 71, 72, 73, 74, 75, 76, 77, 78, 79, 80, 81] (by decide +kernel) (by decide +kernel)
set_option maxRecDepth 20000 in
theorem gX5_border_X5_isGauge : GoodIn wsX5_border (wsV RX5 76 RX5 yX5_isGauge wsX5_isGauge) := goodIn_app (goodIn_of _ (by decide +kernel)) ggX5_border_X5_isGauge
set_option maxRecDepth 20000 in
theorem ggX5_border_X5_isDay : GoodIn wsX5_border wsX5_isDay := goodIn_r _ [12, 7, 8, 4, 9] (by decide +kernel) (by decide +kernel)
set_option maxRecDepth 20000 in
theorem gX5_border_X5_isDay : GoodIn wsX5_border (va_wsS RX5 84 yX5_isDay wsX5_isDay) := goodIn_app (goodIn_of _ (by decide +kernel)) ggX5_border_X5_isDay
set_option maxRecDepth 20000 in
theorem ggX5_border_X5_workingOn : GoodIn wsX5_border wsX5_workingOn := goodIn_r _ [16, 6, 17, 18, 63, 64, 65, 66, 67, 68, 69, 70, 71, 72, 73, 74, 75, 76, 77, 78, 79, 80, 81] (by decide +kernel) (by decide +kernel)
set_option maxRecDepth 20000 in
theorem gX5_border_X5_workingOn : GoodIn wsX5_border (wsV RX5 93 RX5 yX5_workingOn wsX5_workingOn) := goodIn_app (goodIn_of _ (by decide +kernel)) ggX5_border_X5_workingOn
set_option maxRecDepth 20000 in
theorem ggX5_border_X5_lookUp : GoodIn wsX5_border wsX5_lookUp := goodIn_r _ [22, 23, 24, 25, 26, 27, 63, 64, 65, 66, 67, 68, 69, 70, 71, 72, 73, 74, 75, 76, 77, 78, 79, 80, 81] (by decide +kernel) (by decide +kernel)
set_option maxRecDepth 20000 in
theorem gX5_border_X5_lookUp : GoodIn wsX5_border (wsV RX5 115 RX5 yX5_lookUp wsX5_lookUp) := goodIn_app (goodIn_of _ (by decide +kernel)) ggX5_border_X5_lookUp
set_option maxRecDepth 20000 in
theorem ggX5_border_X5_sides : GoodIn wsX5_border wsX5_sides := goodIn_r _ [31, 32, 33, 34, 4, 35, 7, 8, 9, 36, 37, 38, 39, 40, 41, 42, 43, 44, 45, 6, 46, 47, 48, 49, 50, 51, 52, 53, 54, 55, 56, 57, 58, 59, 60, 61, 62, 63, 64, 65, 66, 67, 68, 69, 70, 71, 72, 73, 74, 75, 76, 77, 78, 79, 80, 81] (by decide +kernel) (by decide +kernel)
set_option maxRecDepth 20000 in
theorem gX5_border_X5_sides : GoodIn wsX5_border (wsV RX5 141 RX5 yX5_sides wsX5_sides) := goodIn_app (goodIn_of _ (by decide +kernel)) ggX5_border_X5_sides
theorem dX5_border_0 : decode cX5_border 0 = .ok (.aload_n 0, 1) := by decide +kernel
theorem dX5_border_1 : decode cX5_border 1 = .ok (.iload_n 2, 1) := by decide +kernel
theorem dX5_border_2 : decode cX5_border 2 = .ok (.invokevirtual 76, 3) := by decide +kernel
theorem dX5_border_5 : decode cX5_border 5 = .ok (.ifCond .eq 11, 3) := by decide +kernel
theorem dX5_border_8 : decode cX5_border 8 = .ok (.aload_n 0, 1) := by decide +kernel
theorem dX5_border_9 : decode cX5_border 9 = .ok (.iload_n 3, 1) := by decide +kernel
theorem dX5_border_10 : decode cX5_border 10 = .ok (.invokevirtual 76, 3) := by decide +kernel
theorem dX5_border_13 : decode cX5_border 13 = .ok (.ifCond .ne 5, 3) := by decide +kernel
theorem dX5_border_16 : decode cX5_border 16 = .ok (.iconst (-1), 1) := by decide +kernel
theorem dX5_border_17 : decode cX5_border 17 = .ok (.ireturn, 1) := by decide +kernel
theorem dX5_border_18 : decode cX5_border 18 = .ok (.iload_n 1, 1) := by decide +kernel
theorem dX5_border_19 : decode cX5_border 19 = .ok (.invokestatic 84, 3) := by decide +kernel
theorem dX5_border_22 : decode cX5_border 22 = .ok (.ifCond .ne 6, 3) := by decide +kernel
theorem dX5_border_25 : decode cX5_border 25 = .ok (.bipush (-2), 2) := by decide +kernel
theorem dX5_border_27 : decode cX5_border 27 = .ok (.ireturn, 1) := by decide +kernel
theorem dX5_border_28 : decode cX5_border 28 = .ok (.aload_n 0, 1) := by decide +kernel
theorem dX5_border_29 : decode cX5_border 29 = .ok (.iload_n 1, 1) := by decide +kernel
theorem dX5_border_30 : decode cX5_border 30 = .ok (.invokevirtual 93, 3) := by decide +kernel
theorem dX5_border_33 : decode cX5_border 33 = .ok (.istore 4, 2) := by decide +kernel
theorem dX5_border_35 : decode cX5_border 35 = .ok (.aload_n 0, 1) := by decide +kernel
theorem dX5_border_36 : decode cX5_border 36 = .ok (.iload 4, 2) := by decide +kernel
theorem dX5_border_38 : decode cX5_border 38 = .ok (.invokevirtual 115, 3) := by decide +kernel
theorem dX5_border_41 : decode cX5_border 41 = .ok (.aload_n 0, 1) := by decide +kernel
theorem dX5_border_42 : decode cX5_border 42 = .ok (.iload 4, 2) := by decide +kernel
theorem dX5_border_44 : decode cX5_border 44 = .ok (.iload_n 2, 1) := by decide +kernel
theorem dX5_border_45 : decode cX5_border 45 = .ok (.iload_n 2, 1) := by decide +kernel
theorem dX5_border_46 : decode cX5_border 46 = .ok (.iload_n 3, 1) := by decide +kernel
theorem dX5_border_47 : decode cX5_border 47 = .ok (.if_icmp .ne 8, 3) := by decide +kernel
theorem dX5_border_50 : decode cX5_border 50 = .ok (.bipush (-6), 2) := by decide +kernel
theorem dX5_border_52 : decode cX5_border 52 = .ok (.goto 4, 3) := by decide +kernel
theorem dX5_border_55 : decode cX5_border 55 = .ok (.iload_n 3, 1) := by decide +kernel
theorem dX5_border_56 : decode cX5_border 56 = .ok (.invokevirtual 141, 3) := by decide +kernel
theorem dX5_border_59 : decode cX5_border 59 = .ok (.ireturn, 1) := by decide +kernel
set_option maxRecDepth 20000 in
theorem ggX5_neighbours_X5_isGauge : GoodIn wsX5_neighbours wsX5_isGauge := goodIn_r _ [6, 1, 7, 8, 5, 9, 63, 64, 65, 66, 67, 68, 69, 70, 71, 72, 73, 74, 75, 76, 77, 78, 79, 80, 81] (by decide +kernel) (by decide +kernel)
set_option maxRecDepth 20000 in
theorem gX5_neighbours_X5_isGauge : GoodIn wsX5_neighbours (wsV RX5 76 RX5 yX5_isGauge wsX5_isGauge) := goodIn_app (goodIn_of _ (by decide +kernel)) ggX5_neighbours_X5_isGauge
set_option maxRecDepth 20000 in
theorem ggX5_neighbours_X5_isDay : GoodIn wsX5_neighbours wsX5_isDay := goodIn_r _ [12, 7, 8, 5, 9] (by decide +kernel) (by decide +kernel)
set_option maxRecDepth 20000 in
theorem gX5_neighbours_X5_isDay : GoodIn wsX5_neighbours (va_wsS RX5 84 yX5_isDay wsX5_isDay) := goodIn_app (goodIn_of _ (by decide +kernel)) ggX5_neighbours_X5_isDay
set_option maxRecDepth 20000 in
theorem ggX5_neighbours_X5_workingOn : GoodIn wsX5_neighbours wsX5_workingOn := goodIn_r _ [16, 1, 17, 18, 63, 64, 65, 66, 67, 68, 69, 70, 71, 72, 73, 74, 75, 76, 77, 78, 79, 80, 81] (by decide +kernel) (by decide +kernel)
set_option maxRecDepth 20000 in
theorem gX5_neighbours_X5_workingOn : GoodIn wsX5_neighbours (wsV RX5 93 RX5 yX5_workingOn wsX5_workingOn) := goodIn_app (goodIn_of _ (by decide +kernel)) ggX5_neighbours_X5_workingOn
set_option maxRecDepth 20000 in
theorem ggX5_neighbours_X5_lookUp : GoodIn wsX5_neighbours wsX5_lookUp := goodIn_r _ [22, 23, 24, 25, 26, 27, 63, 64, 65, 66, 67, 68, 69, 70, 71, 72, 73, 74, 75, 76, 77, 78, 79, 80, 81] (by decide +kernel) (by decide +kernel)
set_option maxRecDepth 20000 in
theorem gX5_neighbours_X5_lookUp : GoodIn wsX5_neighbours (wsV RX5 115 RX5 yX5_lookUp wsX5_lookUp) := goodIn_app (goodIn_of _ (by decide +kernel)) ggX5_neighbours_X5_lookUp
set_option maxRecDepth 20000 in
theorem ggX5_neighbours_X5_sides : GoodIn wsX5_neighbours wsX5_sides := goodIn_r _ [31, 32, 33, 34, 5, 35, 7, 8, 9, 36, 37, 38, 39, 40, 41, 42, 43, 44, 45, 1, 46, 47, 48, 49, 50, 51, 52, 53, 54, 55, 56, 57, 58, 59, 60, 61, 62, 63, 64, 65, 66, 67, 68, 69, 70, 71, 72, 73, 74, 75, 76, 77, 78, 79, 80, 81] (by decide +kernel) (by decide +kernel)
set_option maxRecDepth 20000 in
theorem gX5_neighbours_X5_sides : GoodIn wsX5_neighbours (wsV RX5 141 RX5 yX5_sides wsX5_sides) := goodIn_app (goodIn_of _ (by decide +kernel)) ggX5_neighbours_X5_sides
theorem dX5_neighbours_0 : decode cX5_neighbours 0 = .ok (.aload_n 0, 1) := by decide +kernel
theorem dX5_neighbours_1 : decode cX5_neighbours 1 = .ok (.iload_n 2, 1) := by decide +kernel
theorem dX5_neighbours_2 : decode cX5_neighbours 2 = .ok (.invokevirtual 76, 3) := by decide +kernel
theorem dX5_neighbours_5 : decode cX5_neighbours 5 = .ok (.ifCond .ne 5, 3) := by decide +kernel
theorem dX5_neighbours_8 : decode cX5_neighbours 8 = .ok (.iconst (-1), 1) := by decide +kernel
theorem dX5_neighbours_9 : decode cX5_neighbours 9 = .ok (.ireturn, 1) := by decide +kernel
theorem dX5_neighbours_10 : decode cX5_neighbours 10 = .ok (.iload_n 1, 1) := by decide +kernel
theorem dX5_neighbours_11 : decode cX5_neighbours 11 = .ok (.invokestatic 84, 3) := by decide +kernel
theorem dX5_neighbours_14 : decode cX5_neighbours 14 = .ok (.ifCond .ne 6, 3) := by decide +kernel
theorem dX5_neighbours_17 : decode cX5_neighbours 17 = .ok (.bipush (-2), 2) := by decide +kernel
theorem dX5_neighbours_19 : decode cX5_neighbours 19 = .ok (.ireturn, 1) := by decide +kernel
theorem dX5_neighbours_20 : decode cX5_neighbours 20 = .ok (.aload_n 0, 1) := by decide +kernel
theorem dX5_neighbours_21 : decode cX5_neighbours 21 = .ok (.iload_n 1, 1) := by decide +kernel
theorem dX5_neighbours_22 : decode cX5_neighbours 22 = .ok (.invokevirtual 93, 3) := by decide +kernel
theorem dX5_neighbours_25 : decode cX5_neighbours 25 = .ok (.istore_n 3, 1) := by decide +kernel
theorem dX5_neighbours_26 : decode cX5_neighbours 26 = .ok (.aload_n 0, 1) := by decide +kernel
theorem dX5_neighbours_27 : decode cX5_neighbours 27 = .ok (.iload_n 3, 1) := by decide +kernel
theorem dX5_neighbours_28 : decode cX5_neighbours 28 = .ok (.invokevirtual 115, 3) := by decide +kernel
theorem dX5_neighbours_31 : decode cX5_neighbours 31 = .ok (.iconst 0, 1) := by decide +kernel
theorem dX5_neighbours_32 : decode cX5_neighbours 32 = .ok (.istore 4, 2) := by decide +kernel
theorem dX5_neighbours_34 : decode cX5_neighbours 34 = .ok (.iconst 0, 1) := by decide +kernel
theorem dX5_neighbours_35 : decode cX5_neighbours 35 = .ok (.istore 5, 2) := by decide +kernel
theorem dX5_neighbours_37 : decode cX5_neighbours 37 = .ok (.iload 5, 2) := by decide +kernel
theorem dX5_neighbours_39 : decode cX5_neighbours 39 = .ok (.aload_n 0, 1) := by decide +kernel
theorem dX5_neighbours_40 : decode cX5_neighbours 40 = .ok (.getfield 53, 3) := by decide +kernel
theorem dX5_neighbours_43 : decode cX5_neighbours 43 = .ok (.if_icmp .ge 39, 3) := by decide +kernel
theorem dX5_neighbours_46 : decode cX5_neighbours 46 = .ok (.iload 4, 2) := by decide +kernel
theorem dX5_neighbours_48 : decode cX5_neighbours 48 = .ok (.iload 5, 2) := by decide +kernel
theorem dX5_neighbours_50 : decode cX5_neighbours 50 = .ok (.iload_n 2, 1) := by decide +kernel
theorem dX5_neighbours_51 : decode cX5_neighbours 51 = .ok (.if_icmp .eq 21, 3) := by decide +kernel
theorem dX5_neighbours_54 : decode cX5_neighbours 54 = .ok (.aload_n 0, 1) := by decide +kernel
theorem dX5_neighbours_55 : decode cX5_neighbours 55 = .ok (.iload_n 3, 1) := by decide +kernel
theorem dX5_neighbours_56 : decode cX5_neighbours 56 = .ok (.iload_n 2, 1) := by decide +kernel
theorem dX5_neighbours_57 : decode cX5_neighbours 57 = .ok (.iload 5, 2) := by decide +kernel
theorem dX5_neighbours_59 : decode cX5_neighbours 59 = .ok (.invokevirtual 141, 3) := by decide +kernel
theorem dX5_neighbours_62 : decode cX5_neighbours 62 = .ok (.ifCond .le 10, 3) := by decide +kernel
theorem dX5_neighbours_65 : decode cX5_neighbours 65 = .ok (.iconst 1, 1) := by decide +kernel
theorem dX5_neighbours_66 : decode cX5_neighbours 66 = .ok (.iload 5, 2) := by decide +kernel
theorem dX5_neighbours_68 : decode cX5_neighbours 68 = .ok (.ishl, 1) := by decide +kernel
theorem dX5_neighbours_69 : decode cX5_neighbours 69 = .ok (.goto 4, 3) := by decide +kernel
theorem dX5_neighbours_72 : decode cX5_neighbours 72 = .ok (.iconst 0, 1) := by decide +kernel
theorem dX5_neighbours_73 : decode cX5_neighbours 73 = .ok (.ior, 1) := by decide +kernel
theorem dX5_neighbours_74 : decode cX5_neighbours 74 = .ok (.istore 4, 2) := by decide +kernel
theorem dX5_neighbours_76 : decode cX5_neighbours 76 = .ok (.iinc 5 1, 3) := by decide +kernel
theorem dX5_neighbours_79 : decode cX5_neighbours 79 = .ok (.goto (-42), 3) := by decide +kernel
theorem dX5_neighbours_82 : decode cX5_neighbours 82 = .ok (.iload 4, 2) := by decide +kernel
theorem dX5_neighbours_84 : decode cX5_neighbours 84 = .ok (.ireturn, 1) := by decide +kernel
set_option maxRecDepth 20000 in
theorem ggX5_hasMean_X5_workingOn : GoodIn wsX5_hasMean wsX5_workingOn := goodIn_r _ [5, 6, 7, 8, 15, 16, 17, 18, 19, 20, 21, 22, 23, 24, 25, 26, 27, 28, 29, 30, 31, 32, 33] (by decide +kernel) (by decide +kernel)
set_option maxRecDepth 20000 in
theorem gX5_hasMean_X5_workingOn : GoodIn wsX5_hasMean (wsV RX5 93 RX5 yX5_workingOn wsX5_workingOn) := goodIn_app (goodIn_of _ (by decide +kernel)) ggX5_hasMean_X5_workingOn
set_option maxRecDepth 20000 in
theorem ggX5_hasMean_X5_plots : GoodIn wsX5_hasMean wsX5_plots := goodIn_r _ [12, 13, 14, 15, 16, 17, 18, 19, 20, 21, 22, 23, 24, 25, 26, 27, 28, 29, 30, 31, 32, 33] (by decide +kernel) (by decide +kernel)
set_option maxRecDepth 20000 in
theorem gX5_hasMean_X5_plots : GoodIn wsX5_hasMean (wsV RX5 64 RX5 yX5_plots wsX5_plots) := goodIn_app (goodIn_of _ (by decide +kernel)) ggX5_hasMean_X5_plots
theorem dX5_hasMean_0 : decode cX5_hasMean 0 = .ok (.aload_n 0, 1) := by decide +kernel
theorem dX5_hasMean_1 : decode cX5_hasMean 1 = .ok (.iload_n 1, 1) := by decide +kernel
theorem dX5_hasMean_2 : decode cX5_hasMean 2 = .ok (.invokevirtual 93, 3) := by decide +kernel
theorem dX5_hasMean_5 : decode cX5_hasMean 5 = .ok (.ifCond .eq 14, 3) := by decide +kernel
theorem dX5_hasMean_8 : decode cX5_hasMean 8 = .ok (.aload_n 0, 1) := by decide +kernel
theorem dX5_hasMean_9 : decode cX5_hasMean 9 = .ok (.invokevirtual 64, 3) := by decide +kernel
theorem dX5_hasMean_12 : decode cX5_hasMean 12 = .ok (.ifCond .le 7, 3) := by decide +kernel
theorem dX5_hasMean_15 : decode cX5_hasMean 15 = .ok (.iconst 1, 1) := by decide +kernel
theorem dX5_hasMean_16 : decode cX5_hasMean 16 = .ok (.goto 4, 3) := by decide +kernel
theorem dX5_hasMean_19 : decode cX5_hasMean 19 = .ok (.iconst 0, 1) := by decide +kernel
theorem dX5_hasMean_20 : decode cX5_hasMean 20 = .ok (.ireturn, 1) := by decide +kernel
set_option maxRecDepth 20000 in
theorem ggX5_water_X5_workingOn : GoodIn wsX5_water wsX5_workingOn := goodIn_r _ [7, 1, 8, 2, 39, 40, 41, 42, 43, 44, 45, 46, 47, 48, 49, 50, 51, 52, 53, 54, 55, 56, 57] (by decide +kernel) (by decide +kernel)
set_option maxRecDepth 20000 in
theorem gX5_water_X5_workingOn : GoodIn wsX5_water (wsV RX5 93 RX5 yX5_workingOn wsX5_workingOn) := goodIn_app (goodIn_of _ (by decide +kernel)) ggX5_water_X5_workingOn
set_option maxRecDepth 20000 in
theorem ggX5_water_X5_has : GoodIn wsX5_water wsX5_has := goodIn_r _ [11] (by decide +kernel) (by decide +kernel)
set_option maxRecDepth 20000 in
theorem gX5_water_X5_has : GoodIn wsX5_water (va_wsS RX5 100 yX5_has wsX5_has) := goodIn_app (goodIn_of _ (by decide +kernel)) ggX5_water_X5_has
set_option maxRecDepth 20000 in
theorem ggX5_water_X5_size : GoodIn wsX5_water wsX5_size := goodIn_r _ [15, 16, 17, 18, 6, 19, 20, 21, 22, 23, 24, 25, 26, 27, 28, 1, 29, 30, 31, 32, 33, 34, 35, 36, 37, 38, 9, 10, 11, 39, 40, 41, 42, 43, 44, 45, 46, 47, 48, 49, 50, 51, 52, 53, 54, 55, 56, 57] (by decide +kernel) (by decide +kernel)
set_option maxRecDepth 20000 in
theorem gX5_water_X5_size : GoodIn wsX5_water (wsV RX5 125 RX5 yX5_size wsX5_size) := goodIn_app (goodIn_of _ (by decide +kernel)) ggX5_water_X5_size
theorem dX5_water_0 : decode cX5_water 0 = .ok (.aload_n 0, 1) := by decide +kernel
theorem dX5_water_1 : decode cX5_water 1 = .ok (.iload_n 1, 1) := by decide +kernel
theorem dX5_water_2 : decode cX5_water 2 = .ok (.invokevirtual 93, 3) := by decide +kernel
theorem dX5_water_5 : decode cX5_water 5 = .ok (.istore_n 2, 1) := by decide +kernel
theorem dX5_water_6 : decode cX5_water 6 = .ok (.iconst 0, 1) := by decide +kernel
theorem dX5_water_7 : decode cX5_water 7 = .ok (.istore_n 3, 1) := by decide +kernel
theorem dX5_water_8 : decode cX5_water 8 = .ok (.iconst 0, 1) := by decide +kernel
theorem dX5_water_9 : decode cX5_water 9 = .ok (.istore 4, 2) := by decide +kernel
theorem dX5_water_11 : decode cX5_water 11 = .ok (.iload 4, 2) := by decide +kernel
theorem dX5_water_13 : decode cX5_water 13 = .ok (.aload_n 0, 1) := by decide +kernel
theorem dX5_water_14 : decode cX5_water 14 = .ok (.getfield 53, 3) := by decide +kernel
theorem dX5_water_17 : decode cX5_water 17 = .ok (.if_icmp .ge 45, 3) := by decide +kernel
theorem dX5_water_20 : decode cX5_water 20 = .ok (.iload_n 3, 1) := by decide +kernel
theorem dX5_water_21 : decode cX5_water 21 = .ok (.iload_n 2, 1) := by decide +kernel
theorem dX5_water_22 : decode cX5_water 22 = .ok (.iload 4, 2) := by decide +kernel
theorem dX5_water_24 : decode cX5_water 24 = .ok (.invokestatic 100, 3) := by decide +kernel
theorem dX5_water_27 : decode cX5_water 27 = .ok (.ifCond .eq 26, 3) := by decide +kernel
theorem dX5_water_30 : decode cX5_water 30 = .ok (.aload_n 0, 1) := by decide +kernel
theorem dX5_water_31 : decode cX5_water 31 = .ok (.iload_n 2, 1) := by decide +kernel
theorem dX5_water_32 : decode cX5_water 32 = .ok (.iload 4, 2) := by decide +kernel
theorem dX5_water_34 : decode cX5_water 34 = .ok (.invokevirtual 125, 3) := by decide +kernel
theorem dX5_water_37 : decode cX5_water 37 = .ok (.aload_n 0, 1) := by decide +kernel
theorem dX5_water_38 : decode cX5_water 38 = .ok (.getfield 29, 3) := by decide +kernel
theorem dX5_water_41 : decode cX5_water 41 = .ok (.bipush 64, 2) := by decide +kernel
theorem dX5_water_43 : decode cX5_water 43 = .ok (.iload 4, 2) := by decide +kernel
theorem dX5_water_45 : decode cX5_water 45 = .ok (.imul, 1) := by decide +kernel
theorem dX5_water_46 : decode cX5_water 46 = .ok (.iload_n 1, 1) := by decide +kernel
theorem dX5_water_47 : decode cX5_water 47 = .ok (.iadd, 1) := by decide +kernel
theorem dX5_water_48 : decode cX5_water 48 = .ok (.iaload, 1) := by decide +kernel
theorem dX5_water_49 : decode cX5_water 49 = .ok (.imul, 1) := by decide +kernel
theorem dX5_water_50 : decode cX5_water 50 = .ok (.goto 4, 3) := by decide +kernel
theorem dX5_water_53 : decode cX5_water 53 = .ok (.iconst 0, 1) := by decide +kernel
theorem dX5_water_54 : decode cX5_water 54 = .ok (.iadd, 1) := by decide +kernel
theorem dX5_water_55 : decode cX5_water 55 = .ok (.istore_n 3, 1) := by decide +kernel
theorem dX5_water_56 : decode cX5_water 56 = .ok (.iinc 4 1, 3) := by decide +kernel
theorem dX5_water_59 : decode cX5_water 59 = .ok (.goto (-48), 3) := by decide +kernel
theorem dX5_water_62 : decode cX5_water 62 = .ok (.iload_n 3, 1) := by decide +kernel
theorem dX5_water_63 : decode cX5_water 63 = .ok (.ireturn, 1) := by decide +kernel
set_option maxRecDepth 20000 in
theorem ggX5_mean_X5_isDay : GoodIn wsX5_mean wsX5_isDay := goodIn_r _ [4, 5, 6, 3, 7] (by decide +kernel) (by decide +kernel)
set_option maxRecDepth 20000 in
theorem gX5_mean_X5_isDay : GoodIn wsX5_mean (va_wsS RX5 84 yX5_isDay wsX5_isDay) := goodIn_app (goodIn_of _ (by decide +kernel)) ggX5_mean_X5_isDay
set_option maxRecDepth 20000 in
theorem ggX5_mean_X5_in : GoodIn wsX5_mean wsX5_in := goodIn_r _ [7] (by decide +kernel) (by decide +kernel)
set_option maxRecDepth 20000 in
theorem gX5_mean_X5_in : GoodIn wsX5_mean (va_wsS RX5 57 yX5_in wsX5_in) := goodIn_app (goodIn_of _ (by decide +kernel)) ggX5_mean_X5_in
set_option maxRecDepth 20000 in
theorem ggX5_mean_X5_hasMean : GoodIn wsX5_mean wsX5_hasMean := goodIn_r _ [11, 12, 13, 14, 3, 15, 16, 17, 18, 19, 20, 21, 22, 23, 24, 69, 70, 71, 72, 73, 74, 75, 76, 77, 78, 79, 80, 81, 82, 83, 84, 85, 86, 87] (by decide +kernel) (by decide +kernel)
set_option maxRecDepth 20000 in
theorem gX5_mean_X5_hasMean : GoodIn wsX5_mean (wsV RX5 144 RX5 yX5_hasMean wsX5_hasMean) := goodIn_app (goodIn_of _ (by decide +kernel)) ggX5_mean_X5_hasMean
set_option maxRecDepth 20000 in
theorem ggX5_mean_X5_workingOn : GoodIn wsX5_mean wsX5_workingOn := goodIn_r _ [15, 16, 17, 18, 69, 70, 71, 72, 73, 74, 75, 76, 77, 78, 79, 80, 81, 82, 83, 84, 85, 86, 87] (by decide +kernel) (by decide +kernel)
set_option maxRecDepth 20000 in
theorem gX5_mean_X5_workingOn : GoodIn wsX5_mean (wsV RX5 93 RX5 yX5_workingOn wsX5_workingOn) := goodIn_app (goodIn_of _ (by decide +kernel)) ggX5_mean_X5_workingOn
set_option maxRecDepth 20000 in
theorem ggX5_mean_X5_lookUp : GoodIn wsX5_mean wsX5_lookUp := goodIn_r _ [28, 29, 30, 31, 32, 33, 69, 70, 71, 72, 73, 74, 75, 76, 77, 78, 79, 80, 81, 82, 83, 84, 85, 86, 87] (by decide +kernel) (by decide +kernel)
set_option maxRecDepth 20000 in
theorem gX5_mean_X5_lookUp : GoodIn wsX5_mean (wsV RX5 115 RX5 yX5_lookUp wsX5_lookUp) := goodIn_app (goodIn_of _ (by decide +kernel)) ggX5_mean_X5_lookUp
set_option maxRecDepth 20000 in
theorem ggX5_mean_X5_water : GoodIn wsX5_mean wsX5_water := goodIn_r _ [37, 16, 18, 12, 13, 14, 3, 15, 17, 38, 39, 40, 41, 42, 43, 44, 45, 46, 47, 48, 23, 24, 5, 6, 7, 49, 50, 51, 52, 53, 54, 55, 56, 57, 58, 59, 60, 61, 62, 69, 70, 71, 72, 73, 74, 75, 76, 77, 78, 79, 80, 81, 82, 83, 84, 85, 86, 87] (by decide +kernel) (by decide +kernel)
set_option maxRecDepth 20000 in
theorem gX5_mean_X5_water : GoodIn wsX5_mean (wsV RX5 147 RX5 yX5_water wsX5_water) := goodIn_app (goodIn_of _ (by decide +kernel)) ggX5_mean_X5_water
set_option maxRecDepth 20000 in
theorem ggX5_mean_X5_plots : GoodIn wsX5_mean wsX5_plots := goodIn_r _ [22, 23, 24, 69, 70, 71, 72, 73, 74, 75, 76, 77, 78, 79, 80, 81, 82, 83, 84, 85, 86, 87] (by decide +kernel) (by decide +kernel)
set_option maxRecDepth 20000 in
theorem gX5_mean_X5_plots : GoodIn wsX5_mean (wsV RX5 64 RX5 yX5_plots wsX5_plots) := goodIn_app (goodIn_of _ (by decide +kernel)) ggX5_mean_X5_plots
set_option maxRecDepth 20000 in
theorem ggX5_mean_X5_part : GoodIn wsX5_mean wsX5_part := goodIn_r _ [65, 66, 67, 3, 68] (by decide +kernel) (by decide +kernel)
set_option maxRecDepth 20000 in
theorem gX5_mean_X5_part : GoodIn wsX5_mean (va_wsS RX5 131 yX5_part wsX5_part) := goodIn_app (goodIn_of _ (by decide +kernel)) ggX5_mean_X5_part
theorem dX5_mean_0 : decode cX5_mean 0 = .ok (.iload_n 1, 1) := by decide +kernel
theorem dX5_mean_1 : decode cX5_mean 1 = .ok (.invokestatic 84, 3) := by decide +kernel
theorem dX5_mean_4 : decode cX5_mean 4 = .ok (.ifCond .eq 12, 3) := by decide +kernel
theorem dX5_mean_7 : decode cX5_mean 7 = .ok (.iload_n 2, 1) := by decide +kernel
theorem dX5_mean_8 : decode cX5_mean 8 = .ok (.iconst 0, 1) := by decide +kernel
theorem dX5_mean_9 : decode cX5_mean 9 = .ok (.iconst 1, 1) := by decide +kernel
theorem dX5_mean_10 : decode cX5_mean 10 = .ok (.invokestatic 57, 3) := by decide +kernel
theorem dX5_mean_13 : decode cX5_mean 13 = .ok (.ifCond .ne 6, 3) := by decide +kernel
theorem dX5_mean_16 : decode cX5_mean 16 = .ok (.bipush (-2), 2) := by decide +kernel
theorem dX5_mean_18 : decode cX5_mean 18 = .ok (.ireturn, 1) := by decide +kernel
theorem dX5_mean_19 : decode cX5_mean 19 = .ok (.aload_n 0, 1) := by decide +kernel
theorem dX5_mean_20 : decode cX5_mean 20 = .ok (.iload_n 1, 1) := by decide +kernel
theorem dX5_mean_21 : decode cX5_mean 21 = .ok (.invokevirtual 144, 3) := by decide +kernel
theorem dX5_mean_24 : decode cX5_mean 24 = .ok (.ifCond .ne 6, 3) := by decide +kernel
theorem dX5_mean_27 : decode cX5_mean 27 = .ok (.bipush (-3), 2) := by decide +kernel
theorem dX5_mean_29 : decode cX5_mean 29 = .ok (.ireturn, 1) := by decide +kernel
theorem dX5_mean_30 : decode cX5_mean 30 = .ok (.aload_n 0, 1) := by decide +kernel
theorem dX5_mean_31 : decode cX5_mean 31 = .ok (.aload_n 0, 1) := by decide +kernel
theorem dX5_mean_32 : decode cX5_mean 32 = .ok (.iload_n 1, 1) := by decide +kernel
theorem dX5_mean_33 : decode cX5_mean 33 = .ok (.invokevirtual 93, 3) := by decide +kernel
theorem dX5_mean_36 : decode cX5_mean 36 = .ok (.invokevirtual 115, 3) := by decide +kernel
theorem dX5_mean_39 : decode cX5_mean 39 = .ok (.aload_n 0, 1) := by decide +kernel
theorem dX5_mean_40 : decode cX5_mean 40 = .ok (.iload_n 1, 1) := by decide +kernel
theorem dX5_mean_41 : decode cX5_mean 41 = .ok (.invokevirtual 147, 3) := by decide +kernel
theorem dX5_mean_44 : decode cX5_mean 44 = .ok (.aload_n 0, 1) := by decide +kernel
theorem dX5_mean_45 : decode cX5_mean 45 = .ok (.invokevirtual 64, 3) := by decide +kernel
theorem dX5_mean_48 : decode cX5_mean 48 = .ok (.iload_n 2, 1) := by decide +kernel
theorem dX5_mean_49 : decode cX5_mean 49 = .ok (.invokestatic 131, 3) := by decide +kernel
theorem dX5_mean_52 : decode cX5_mean 52 = .ok (.ireturn, 1) := by decide +kernel
set_option maxRecDepth 20000 in
theorem ggX5_total_X5_isDay : GoodIn wsX5_total wsX5_isDay := goodIn_r _ [4, 5, 6, 3, 7] (by decide +kernel) (by decide +kernel)
set_option maxRecDepth 20000 in
theorem gX5_total_X5_isDay : GoodIn wsX5_total (va_wsS RX5 84 yX5_isDay wsX5_isDay) := goodIn_app (goodIn_of _ (by decide +kernel)) ggX5_total_X5_isDay
set_option maxRecDepth 20000 in
theorem ggX5_total_X5_in : GoodIn wsX5_total wsX5_in := goodIn_r _ [7] (by decide +kernel) (by decide +kernel)
set_option maxRecDepth 20000 in
theorem gX5_total_X5_in : GoodIn wsX5_total (va_wsS RX5 57 yX5_in wsX5_in) := goodIn_app (goodIn_of _ (by decide +kernel)) ggX5_total_X5_in
set_option maxRecDepth 20000 in
theorem ggX5_total_X5_hasMean : GoodIn wsX5_total wsX5_hasMean := goodIn_r _ [11, 12, 13, 14, 3, 15, 16, 17, 18, 19, 20, 21, 22, 23, 24, 69, 70, 71, 72, 73, 74, 75, 76, 77, 78, 79, 80, 81, 82, 83, 84, 85, 86, 87] (by decide +kernel) (by decide +kernel)
set_option maxRecDepth 20000 in
theorem gX5_total_X5_hasMean : GoodIn wsX5_total (wsV RX5 144 RX5 yX5_hasMean wsX5_hasMean) := goodIn_app (goodIn_of _ (by decide +kernel)) ggX5_total_X5_hasMean
set_option maxRecDepth 20000 in
theorem ggX5_total_X5_workingOn : GoodIn wsX5_total wsX5_workingOn := goodIn_r _ [15, 16, 17, 18, 69, 70, 71, 72, 73, 74, 75, 76, 77, 78, 79, 80, 81, 82, 83, 84, 85, 86, 87] (by decide +kernel) (by decide +kernel)
set_option maxRecDepth 20000 in
theorem gX5_total_X5_workingOn : GoodIn wsX5_total (wsV RX5 93 RX5 yX5_workingOn wsX5_workingOn) := goodIn_app (goodIn_of _ (by decide +kernel)) ggX5_total_X5_workingOn
set_option maxRecDepth 20000 in
theorem ggX5_total_X5_lookUp : GoodIn wsX5_total wsX5_lookUp := goodIn_r _ [28, 29, 30, 31, 32, 33, 69, 70, 71, 72, 73, 74, 75, 76, 77, 78, 79, 80, 81, 82, 83, 84, 85, 86, 87] (by decide +kernel) (by decide +kernel)
set_option maxRecDepth 20000 in
theorem gX5_total_X5_lookUp : GoodIn wsX5_total (wsV RX5 115 RX5 yX5_lookUp wsX5_lookUp) := goodIn_app (goodIn_of _ (by decide +kernel)) ggX5_total_X5_lookUp
set_option maxRecDepth 20000 in
theorem ggX5_total_X5_water : GoodIn wsX5_total wsX5_water := goodIn_r _ [37, 16, 18, 12, 13, 14, 3, 15, 17, 38, 39, 40, 41, 42, 43, 44, 45, 46, 47, 48, 23, 24, 5, 6, 7, 49, 50, 51, 52, 53, 54, 55, 56, 57, 58, 59, 60, 61, 62, 69, 70, 71, 72, 73, 74, 75, 76, 77, 78, 79, 80, 81, 82, 83, 84, 85, 86, 87] (by decide +kernel) (by decide +kernel)
set_option maxRecDepth 20000 in
theorem gX5_total_X5_water : GoodIn wsX5_total (wsV RX5 147 RX5 yX5_water wsX5_water) := goodIn_app (goodIn_of _ (by decide +kernel)) ggX5_total_X5_water
set_option maxRecDepth 20000 in
theorem ggX5_total_X5_plots : GoodIn wsX5_total wsX5_plots := goodIn_r _ [22, 23, 24, 69, 70, 71, 72, 73, 74, 75, 76, 77, 78, 79, 80, 81, 82, 83, 84, 85, 86, 87] (by decide +kernel) (by decide +kernel)
set_option maxRecDepth 20000 in
theorem gX5_total_X5_plots : GoodIn wsX5_total (wsV RX5 64 RX5 yX5_plots wsX5_plots) := goodIn_app (goodIn_of _ (by decide +kernel)) ggX5_total_X5_plots
set_option maxRecDepth 20000 in
theorem ggX5_total_X5_part : GoodIn wsX5_total wsX5_part := goodIn_r _ [65, 66, 67, 3, 68] (by decide +kernel) (by decide +kernel)
set_option maxRecDepth 20000 in
theorem gX5_total_X5_part : GoodIn wsX5_total (va_wsS RX5 131 yX5_part wsX5_part) := goodIn_app (goodIn_of _ (by decide +kernel)) ggX5_total_X5_part
theorem dX5_total_0 : decode cX5_total 0 = .ok (.iload_n 1, 1) := by decide +kernel
theorem dX5_total_1 : decode cX5_total 1 = .ok (.invokestatic 84, 3) := by decide +kernel
theorem dX5_total_4 : decode cX5_total 4 = .ok (.ifCond .eq 24, 3) := by decide +kernel
theorem dX5_total_7 : decode cX5_total 7 = .ok (.iload_n 2, 1) := by decide +kernel
theorem dX5_total_8 : decode cX5_total 8 = .ok (.invokestatic 84, 3) := by decide +kernel
theorem dX5_total_11 : decode cX5_total 11 = .ok (.ifCond .eq 17, 3) := by decide +kernel
theorem dX5_total_14 : decode cX5_total 14 = .ok (.iload_n 1, 1) := by decide +kernel
theorem dX5_total_15 : decode cX5_total 15 = .ok (.iload_n 2, 1) := by decide +kernel
theorem dX5_total_16 : decode cX5_total 16 = .ok (.if_icmp .gt 12, 3) := by decide +kernel
theorem dX5_total_19 : decode cX5_total 19 = .ok (.iload_n 3, 1) := by decide +kernel
theorem dX5_total_20 : decode cX5_total 20 = .ok (.iconst 0, 1) := by decide +kernel
theorem dX5_total_21 : decode cX5_total 21 = .ok (.iconst 2, 1) := by decide +kernel
theorem dX5_total_22 : decode cX5_total 22 = .ok (.invokestatic 57, 3) := by decide +kernel
theorem dX5_total_25 : decode cX5_total 25 = .ok (.ifCond .ne 6, 3) := by decide +kernel
theorem dX5_total_28 : decode cX5_total 28 = .ok (.bipush (-2), 2) := by decide +kernel
theorem dX5_total_30 : decode cX5_total 30 = .ok (.ireturn, 1) := by decide +kernel
theorem dX5_total_31 : decode cX5_total 31 = .ok (.iconst 0, 1) := by decide +kernel
theorem dX5_total_32 : decode cX5_total 32 = .ok (.istore 4, 2) := by decide +kernel
theorem dX5_total_34 : decode cX5_total 34 = .ok (.iconst 0, 1) := by decide +kernel
theorem dX5_total_35 : decode cX5_total 35 = .ok (.istore 5, 2) := by decide +kernel
theorem dX5_total_37 : decode cX5_total 37 = .ok (.iload_n 1, 1) := by decide +kernel
theorem dX5_total_38 : decode cX5_total 38 = .ok (.istore 6, 2) := by decide +kernel
theorem dX5_total_40 : decode cX5_total 40 = .ok (.iload 6, 2) := by decide +kernel
theorem dX5_total_42 : decode cX5_total 42 = .ok (.iload_n 2, 1) := by decide +kernel
theorem dX5_total_43 : decode cX5_total 43 = .ok (.if_icmp .gt 42, 3) := by decide +kernel
theorem dX5_total_46 : decode cX5_total 46 = .ok (.aload_n 0, 1) := by decide +kernel
theorem dX5_total_47 : decode cX5_total 47 = .ok (.iload 6, 2) := by decide +kernel
theorem dX5_total_49 : decode cX5_total 49 = .ok (.invokevirtual 144, 3) := by decide +kernel
theorem dX5_total_52 : decode cX5_total 52 = .ok (.ifCond .eq 27, 3) := by decide +kernel
theorem dX5_total_55 : decode cX5_total 55 = .ok (.aload_n 0, 1) := by decide +kernel
theorem dX5_total_56 : decode cX5_total 56 = .ok (.aload_n 0, 1) := by decide +kernel
theorem dX5_total_57 : decode cX5_total 57 = .ok (.iload 6, 2) := by decide +kernel
theorem dX5_total_59 : decode cX5_total 59 = .ok (.invokevirtual 93, 3) := by decide +kernel
theorem dX5_total_62 : decode cX5_total 62 = .ok (.invokevirtual 115, 3) := by decide +kernel
theorem dX5_total_65 : decode cX5_total 65 = .ok (.iload 4, 2) := by decide +kernel
theorem dX5_total_67 : decode cX5_total 67 = .ok (.aload_n 0, 1) := by decide +kernel
theorem dX5_total_68 : decode cX5_total 68 = .ok (.iload 6, 2) := by decide +kernel
theorem dX5_total_70 : decode cX5_total 70 = .ok (.invokevirtual 147, 3) := by decide +kernel
theorem dX5_total_73 : decode cX5_total 73 = .ok (.iadd, 1) := by decide +kernel
theorem dX5_total_74 : decode cX5_total 74 = .ok (.istore 4, 2) := by decide +kernel
theorem dX5_total_76 : decode cX5_total 76 = .ok (.iinc 5 1, 3) := by decide +kernel
theorem dX5_total_79 : decode cX5_total 79 = .ok (.iinc 6 1, 3) := by decide +kernel
theorem dX5_total_82 : decode cX5_total 82 = .ok (.goto (-42), 3) := by decide +kernel
theorem dX5_total_85 : decode cX5_total 85 = .ok (.iload_n 3, 1) := by decide +kernel
theorem dX5_total_86 : decode cX5_total 86 = .ok (.iconst 2, 1) := by decide +kernel
theorem dX5_total_87 : decode cX5_total 87 = .ok (.if_icmp .ne 6, 3) := by decide +kernel
theorem dX5_total_90 : decode cX5_total 90 = .ok (.iload 5, 2) := by decide +kernel
theorem dX5_total_92 : decode cX5_total 92 = .ok (.ireturn, 1) := by decide +kernel
theorem dX5_total_93 : decode cX5_total 93 = .ok (.iload 5, 2) := by decide +kernel
theorem dX5_total_95 : decode cX5_total 95 = .ok (.ifCond .ne 7, 3) := by decide +kernel
theorem dX5_total_98 : decode cX5_total 98 = .ok (.iload_n 3, 1) := by decide +kernel
theorem dX5_total_99 : decode cX5_total 99 = .ok (.goto 13, 3) := by decide +kernel
theorem dX5_total_102 : decode cX5_total 102 = .ok (.iload 4, 2) := by decide +kernel
theorem dX5_total_104 : decode cX5_total 104 = .ok (.aload_n 0, 1) := by decide +kernel
theorem dX5_total_105 : decode cX5_total 105 = .ok (.invokevirtual 64, 3) := by decide +kernel
theorem dX5_total_108 : decode cX5_total 108 = .ok (.iload_n 3, 1) := by decide +kernel
theorem dX5_total_109 : decode cX5_total 109 = .ok (.invokestatic 131, 3) := by decide +kernel
theorem dX5_total_112 : decode cX5_total 112 = .ok (.ireturn, 1) := by decide +kernel
set_option maxRecDepth 20000 in
theorem ggX5_spread_X5_isDay : GoodIn wsX5_spread wsX5_isDay := goodIn_r _ [5, 6, 7, 4, 8] (by decide +kernel) (by decide +kernel)
set_option maxRecDepth 20000 in
theorem gX5_spread_X5_isDay : GoodIn wsX5_spread (va_wsS RX5 84 yX5_isDay wsX5_isDay) := goodIn_app (goodIn_of _ (by decide +kernel)) ggX5_spread_X5_isDay
set_option maxRecDepth 20000 in
theorem ggX5_spread_X5_workingOn : GoodIn wsX5_spread wsX5_workingOn := goodIn_r _ [12, 1, 13, 14, 51, 52, 53, 54, 55, 56, 57, 58, 59, 60, 61, 62, 63, 64, 65, 66, 67, 68, 69] (by decide +kernel) (by decide +kernel)
set_option maxRecDepth 20000 in
theorem gX5_spread_X5_workingOn : GoodIn wsX5_spread (wsV RX5 93 RX5 yX5_workingOn wsX5_workingOn) := goodIn_app (goodIn_of _ (by decide +kernel)) ggX5_spread_X5_workingOn
set_option maxRecDepth 20000 in
theorem ggX5_spread_X5_lookUp : GoodIn wsX5_spread wsX5_lookUp := goodIn_r _ [18, 19, 20, 21, 22, 23, 51, 52, 53, 54, 55, 56, 57, 58, 59, 60, 61, 62, 63, 64, 65, 66, 67, 68, 69] (by decide +kernel) (by decide +kernel)
set_option maxRecDepth 20000 in
theorem gX5_spread_X5_lookUp : GoodIn wsX5_spread (wsV RX5 115 RX5 yX5_lookUp wsX5_lookUp) := goodIn_app (goodIn_of _ (by decide +kernel)) ggX5_spread_X5_lookUp
set_option maxRecDepth 20000 in
theorem ggX5_spread_X5_farOf : GoodIn wsX5_spread wsX5_farOf := goodIn_r _ [27, 28, 29, 30, 4, 31, 32, 33, 6, 7, 8, 34, 35, 36, 37, 1, 38, 39, 40, 41, 42, 43, 44, 45, 46, 47, 48, 49, 50, 51, 52, 53, 54, 55, 56, 57, 58, 59, 60, 61, 62, 63, 64, 65, 66, 67, 68, 69] (by decide +kernel) (by decide +kernel)
set_option maxRecDepth 20000 in
theorem gX5_spread_X5_farOf : GoodIn wsX5_spread (wsV RX5 128 RX5 yX5_farOf wsX5_farOf) := goodIn_app (goodIn_of _ (by decide +kernel)) ggX5_spread_X5_farOf
theorem dX5_spread_0 : decode cX5_spread 0 = .ok (.iload_n 1, 1) := by decide +kernel
theorem dX5_spread_1 : decode cX5_spread 1 = .ok (.invokestatic 84, 3) := by decide +kernel
theorem dX5_spread_4 : decode cX5_spread 4 = .ok (.ifCond .ne 6, 3) := by decide +kernel
theorem dX5_spread_7 : decode cX5_spread 7 = .ok (.bipush (-2), 2) := by decide +kernel
theorem dX5_spread_9 : decode cX5_spread 9 = .ok (.ireturn, 1) := by decide +kernel
theorem dX5_spread_10 : decode cX5_spread 10 = .ok (.aload_n 0, 1) := by decide +kernel
theorem dX5_spread_11 : decode cX5_spread 11 = .ok (.iload_n 1, 1) := by decide +kernel
theorem dX5_spread_12 : decode cX5_spread 12 = .ok (.invokevirtual 93, 3) := by decide +kernel
theorem dX5_spread_15 : decode cX5_spread 15 = .ok (.istore_n 2, 1) := by decide +kernel
theorem dX5_spread_16 : decode cX5_spread 16 = .ok (.iload_n 2, 1) := by decide +kernel
theorem dX5_spread_17 : decode cX5_spread 17 = .ok (.ifCond .ne 6, 3) := by decide +kernel
theorem dX5_spread_20 : decode cX5_spread 20 = .ok (.bipush (-6), 2) := by decide +kernel
theorem dX5_spread_22 : decode cX5_spread 22 = .ok (.ireturn, 1) := by decide +kernel
theorem dX5_spread_23 : decode cX5_spread 23 = .ok (.aload_n 0, 1) := by decide +kernel
theorem dX5_spread_24 : decode cX5_spread 24 = .ok (.iload_n 2, 1) := by decide +kernel
theorem dX5_spread_25 : decode cX5_spread 25 = .ok (.invokevirtual 115, 3) := by decide +kernel
theorem dX5_spread_28 : decode cX5_spread 28 = .ok (.iconst 0, 1) := by decide +kernel
theorem dX5_spread_29 : decode cX5_spread 29 = .ok (.istore_n 3, 1) := by decide +kernel
theorem dX5_spread_30 : decode cX5_spread 30 = .ok (.iconst 0, 1) := by decide +kernel
theorem dX5_spread_31 : decode cX5_spread 31 = .ok (.istore 4, 2) := by decide +kernel
theorem dX5_spread_33 : decode cX5_spread 33 = .ok (.iload 4, 2) := by decide +kernel
theorem dX5_spread_35 : decode cX5_spread 35 = .ok (.aload_n 0, 1) := by decide +kernel
theorem dX5_spread_36 : decode cX5_spread 36 = .ok (.getfield 53, 3) := by decide +kernel
theorem dX5_spread_39 : decode cX5_spread 39 = .ok (.if_icmp .ge 19, 3) := by decide +kernel
theorem dX5_spread_42 : decode cX5_spread 42 = .ok (.iload_n 3, 1) := by decide +kernel
theorem dX5_spread_43 : decode cX5_spread 43 = .ok (.aload_n 0, 1) := by decide +kernel
theorem dX5_spread_44 : decode cX5_spread 44 = .ok (.iload_n 2, 1) := by decide +kernel
theorem dX5_spread_45 : decode cX5_spread 45 = .ok (.iload 4, 2) := by decide +kernel
theorem dX5_spread_47 : decode cX5_spread 47 = .ok (.invokevirtual 128, 3) := by decide +kernel
theorem dX5_spread_50 : decode cX5_spread 50 = .ok (.iadd, 1) := by decide +kernel
theorem dX5_spread_51 : decode cX5_spread 51 = .ok (.istore_n 3, 1) := by decide +kernel
theorem dX5_spread_52 : decode cX5_spread 52 = .ok (.iinc 4 1, 3) := by decide +kernel
theorem dX5_spread_55 : decode cX5_spread 55 = .ok (.goto (-22), 3) := by decide +kernel
theorem dX5_spread_58 : decode cX5_spread 58 = .ok (.iload_n 3, 1) := by decide +kernel
theorem dX5_spread_59 : decode cX5_spread 59 = .ok (.ireturn, 1) := by decide +kernel
set_option maxRecDepth 20000 in
theorem ggX5_spreadWith_X5_isPlot : GoodIn wsX5_spreadWith wsX5_isPlot := goodIn_r _ [6, 7, 8, 9, 10, 5, 11, 29, 30, 31, 32, 33, 34, 35, 36, 37, 38, 39, 40, 41, 42, 43, 44, 45, 46, 47] (by decide +kernel) (by decide +kernel)
set_option maxRecDepth 20000 in
theorem gX5_spreadWith_X5_isPlot : GoodIn wsX5_spreadWith (wsV RX5 112 RX5 yX5_isPlot wsX5_isPlot) := goodIn_app (goodIn_of _ (by decide +kernel)) ggX5_spreadWith_X5_isPlot
set_option maxRecDepth 20000 in
theorem ggX5_spreadWith_X5_ownerOf : GoodIn wsX5_spreadWith wsX5_ownerOf := goodIn_r _ [15, 16, 1, 17, 18, 19, 5, 20, 21, 22, 23, 24, 25, 26, 27, 28, 29, 30, 31, 32, 33, 34, 35, 36, 37, 38, 39, 40, 41, 42, 43, 44, 45, 46, 47] (by decide +kernel) (by decide +kernel)
set_option maxRecDepth 20000 in
theorem gX5_spreadWith_X5_ownerOf : GoodIn wsX5_spreadWith (wsV RX5 119 RX5 yX5_ownerOf wsX5_ownerOf) := goodIn_app (goodIn_of _ (by decide +kernel)) ggX5_spreadWith_X5_ownerOf
set_option maxRecDepth 20000 in
theorem ggX5_spreadWith_X5_square : GoodIn wsX5_spreadWith wsX5_square := goodIn_r _ [25] (by decide +kernel) (by decide +kernel)
set_option maxRecDepth 20000 in
theorem gX5_spreadWith_X5_square : GoodIn wsX5_spreadWith (va_wsS RX5 80 yX5_square wsX5_square) := goodIn_app (goodIn_of _ (by decide +kernel)) ggX5_spreadWith_X5_square
set_option maxRecDepth 20000 in
theorem ggX5_spreadWith_X5_far : GoodIn wsX5_spreadWith wsX5_far := goodIn_r _ [20, 21, 22, 23, 24, 5, 25, 29, 30, 31, 32, 33, 34, 35, 36, 37, 38, 39, 40, 41, 42, 43, 44, 45, 46, 47] (by decide +kernel) (by decide +kernel)
set_option maxRecDepth 20000 in
theorem gX5_spreadWith_X5_far : GoodIn wsX5_spreadWith (wsV RX5 96 RX5 yX5_far wsX5_far) := goodIn_app (goodIn_of _ (by decide +kernel)) ggX5_spreadWith_X5_far
theorem dX5_spreadWith_0 : decode cX5_spreadWith 0 = .ok (.iconst 0, 1) := by decide +kernel
theorem dX5_spreadWith_1 : decode cX5_spreadWith 1 = .ok (.istore 4, 2) := by decide +kernel
theorem dX5_spreadWith_3 : decode cX5_spreadWith 3 = .ok (.iconst 0, 1) := by decide +kernel
theorem dX5_spreadWith_4 : decode cX5_spreadWith 4 = .ok (.istore 5, 2) := by decide +kernel
theorem dX5_spreadWith_6 : decode cX5_spreadWith 6 = .ok (.iload 5, 2) := by decide +kernel
theorem dX5_spreadWith_8 : decode cX5_spreadWith 8 = .ok (.sipush 256, 3) := by decide +kernel
theorem dX5_spreadWith_11 : decode cX5_spreadWith 11 = .ok (.if_icmp .ge 110, 3) := by decide +kernel
theorem dX5_spreadWith_14 : decode cX5_spreadWith 14 = .ok (.iload 5, 2) := by decide +kernel
theorem dX5_spreadWith_16 : decode cX5_spreadWith 16 = .ok (.bipush 16, 2) := by decide +kernel
theorem dX5_spreadWith_18 : decode cX5_spreadWith 18 = .ok (.irem, 1) := by decide +kernel
theorem dX5_spreadWith_19 : decode cX5_spreadWith 19 = .ok (.istore 6, 2) := by decide +kernel
theorem dX5_spreadWith_21 : decode cX5_spreadWith 21 = .ok (.iload 5, 2) := by decide +kernel
theorem dX5_spreadWith_23 : decode cX5_spreadWith 23 = .ok (.bipush 16, 2) := by decide +kernel
theorem dX5_spreadWith_25 : decode cX5_spreadWith 25 = .ok (.idiv, 1) := by decide +kernel
theorem dX5_spreadWith_26 : decode cX5_spreadWith 26 = .ok (.istore 7, 2) := by decide +kernel
theorem dX5_spreadWith_28 : decode cX5_spreadWith 28 = .ok (.aload_n 0, 1) := by decide +kernel
theorem dX5_spreadWith_29 : decode cX5_spreadWith 29 = .ok (.iload 6, 2) := by decide +kernel
theorem dX5_spreadWith_31 : decode cX5_spreadWith 31 = .ok (.iload 7, 2) := by decide +kernel
theorem dX5_spreadWith_33 : decode cX5_spreadWith 33 = .ok (.invokevirtual 112, 3) := by decide +kernel
theorem dX5_spreadWith_36 : decode cX5_spreadWith 36 = .ok (.ifCond .eq 79, 3) := by decide +kernel
theorem dX5_spreadWith_39 : decode cX5_spreadWith 39 = .ok (.aload_n 0, 1) := by decide +kernel
theorem dX5_spreadWith_40 : decode cX5_spreadWith 40 = .ok (.iload_n 1, 1) := by decide +kernel
theorem dX5_spreadWith_41 : decode cX5_spreadWith 41 = .ok (.iload 6, 2) := by decide +kernel
theorem dX5_spreadWith_43 : decode cX5_spreadWith 43 = .ok (.iload 7, 2) := by decide +kernel
theorem dX5_spreadWith_45 : decode cX5_spreadWith 45 = .ok (.invokevirtual 119, 3) := by decide +kernel
theorem dX5_spreadWith_48 : decode cX5_spreadWith 48 = .ok (.istore 8, 2) := by decide +kernel
theorem dX5_spreadWith_50 : decode cX5_spreadWith 50 = .ok (.iload 6, 2) := by decide +kernel
theorem dX5_spreadWith_52 : decode cX5_spreadWith 52 = .ok (.iload_n 2, 1) := by decide +kernel
theorem dX5_spreadWith_53 : decode cX5_spreadWith 53 = .ok (.isub, 1) := by decide +kernel
theorem dX5_spreadWith_54 : decode cX5_spreadWith 54 = .ok (.invokestatic 80, 3) := by decide +kernel
theorem dX5_spreadWith_57 : decode cX5_spreadWith 57 = .ok (.iload 7, 2) := by decide +kernel
theorem dX5_spreadWith_59 : decode cX5_spreadWith 59 = .ok (.iload_n 3, 1) := by decide +kernel
theorem dX5_spreadWith_60 : decode cX5_spreadWith 60 = .ok (.isub, 1) := by decide +kernel
theorem dX5_spreadWith_61 : decode cX5_spreadWith 61 = .ok (.invokestatic 80, 3) := by decide +kernel
theorem dX5_spreadWith_64 : decode cX5_spreadWith 64 = .ok (.iadd, 1) := by decide +kernel
theorem dX5_spreadWith_65 : decode cX5_spreadWith 65 = .ok (.istore 9, 2) := by decide +kernel
theorem dX5_spreadWith_67 : decode cX5_spreadWith 67 = .ok (.iload 4, 2) := by decide +kernel
theorem dX5_spreadWith_69 : decode cX5_spreadWith 69 = .ok (.iload 8, 2) := by decide +kernel
theorem dX5_spreadWith_71 : decode cX5_spreadWith 71 = .ok (.ifCond .lt 26, 3) := by decide +kernel
theorem dX5_spreadWith_74 : decode cX5_spreadWith 74 = .ok (.iload 9, 2) := by decide +kernel
theorem dX5_spreadWith_76 : decode cX5_spreadWith 76 = .ok (.aload_n 0, 1) := by decide +kernel
theorem dX5_spreadWith_77 : decode cX5_spreadWith 77 = .ok (.iload 8, 2) := by decide +kernel
theorem dX5_spreadWith_79 : decode cX5_spreadWith 79 = .ok (.iload 6, 2) := by decide +kernel
theorem dX5_spreadWith_81 : decode cX5_spreadWith 81 = .ok (.iload 7, 2) := by decide +kernel
theorem dX5_spreadWith_83 : decode cX5_spreadWith 83 = .ok (.invokevirtual 96, 3) := by decide +kernel
theorem dX5_spreadWith_86 : decode cX5_spreadWith 86 = .ok (.aload_n 0, 1) := by decide +kernel
theorem dX5_spreadWith_87 : decode cX5_spreadWith 87 = .ok (.getfield 22, 3) := by decide +kernel
theorem dX5_spreadWith_90 : decode cX5_spreadWith 90 = .ok (.iload 8, 2) := by decide +kernel
theorem dX5_spreadWith_92 : decode cX5_spreadWith 92 = .ok (.iaload, 1) := by decide +kernel
theorem dX5_spreadWith_93 : decode cX5_spreadWith 93 = .ok (.isub, 1) := by decide +kernel
theorem dX5_spreadWith_94 : decode cX5_spreadWith 94 = .ok (.if_icmp .ge 8, 3) := by decide +kernel
theorem dX5_spreadWith_97 : decode cX5_spreadWith 97 = .ok (.iload 9, 2) := by decide +kernel
theorem dX5_spreadWith_99 : decode cX5_spreadWith 99 = .ok (.goto 13, 3) := by decide +kernel
theorem dX5_spreadWith_102 : decode cX5_spreadWith 102 = .ok (.aload_n 0, 1) := by decide +kernel
theorem dX5_spreadWith_103 : decode cX5_spreadWith 103 = .ok (.iload 8, 2) := by decide +kernel
theorem dX5_spreadWith_105 : decode cX5_spreadWith 105 = .ok (.iload 6, 2) := by decide +kernel
theorem dX5_spreadWith_107 : decode cX5_spreadWith 107 = .ok (.iload 7, 2) := by decide +kernel
theorem dX5_spreadWith_109 : decode cX5_spreadWith 109 = .ok (.invokevirtual 96, 3) := by decide +kernel
theorem dX5_spreadWith_112 : decode cX5_spreadWith 112 = .ok (.iadd, 1) := by decide +kernel
theorem dX5_spreadWith_113 : decode cX5_spreadWith 113 = .ok (.istore 4, 2) := by decide +kernel
theorem dX5_spreadWith_115 : decode cX5_spreadWith 115 = .ok (.iinc 5 1, 3) := by decide +kernel
theorem dX5_spreadWith_118 : decode cX5_spreadWith 118 = .ok (.goto (-112), 3) := by decide +kernel
theorem dX5_spreadWith_121 : decode cX5_spreadWith 121 = .ok (.iload 4, 2) := by decide +kernel
theorem dX5_spreadWith_123 : decode cX5_spreadWith 123 = .ok (.ireturn, 1) := by decide +kernel
set_option maxRecDepth 20000 in
theorem ggX5_next_X5_isDay : GoodIn wsX5_next wsX5_isDay := goodIn_r _ [4, 5, 6, 3, 7] (by decide +kernel) (by decide +kernel)
set_option maxRecDepth 20000 in
theorem gX5_next_X5_isDay : GoodIn wsX5_next (va_wsS RX5 84 yX5_isDay wsX5_isDay) := goodIn_app (goodIn_of _ (by decide +kernel)) ggX5_next_X5_isDay
set_option maxRecDepth 20000 in
theorem ggX5_next_X5_in : GoodIn wsX5_next wsX5_in := goodIn_r _ [7] (by decide +kernel) (by decide +kernel)
set_option maxRecDepth 20000 in
theorem gX5_next_X5_in : GoodIn wsX5_next (va_wsS RX5 57 yX5_in wsX5_in) := goodIn_app (goodIn_of _ (by decide +kernel)) ggX5_next_X5_in
set_option maxRecDepth 20000 in
theorem ggX5_next_X5_workingOn : GoodIn wsX5_next wsX5_workingOn := goodIn_r _ [11, 12, 13, 14, 46, 47, 48, 49, 50, 51, 52, 53, 54, 55, 56, 57, 58, 59, 60, 61, 62, 63, 64] (by decide +kernel) (by decide +kernel)
set_option maxRecDepth 20000 in
theorem gX5_next_X5_workingOn : GoodIn wsX5_next (wsV RX5 93 RX5 yX5_workingOn wsX5_workingOn) := goodIn_app (goodIn_of _ (by decide +kernel)) ggX5_next_X5_workingOn
set_option maxRecDepth 20000 in
theorem ggX5_next_X5_isPlot : GoodIn wsX5_next wsX5_isPlot := goodIn_r _ [18, 19, 20, 5, 6, 3, 7, 46, 47, 48, 49, 50, 51, 52, 53, 54, 55, 56, 57, 58, 59, 60, 61, 62, 63, 64] (by decide +kernel) (by decide +kernel)
set_option maxRecDepth 20000 in
theorem gX5_next_X5_isPlot : GoodIn wsX5_next (wsV RX5 112 RX5 yX5_isPlot wsX5_isPlot) := goodIn_app (goodIn_of _ (by decide +kernel)) ggX5_next_X5_isPlot
set_option maxRecDepth 20000 in
theorem ggX5_next_X5_gaugeAt : GoodIn wsX5_next wsX5_gaugeAt := goodIn_r _ [24, 12, 25, 26, 46, 47, 48, 49, 50, 51, 52, 53, 54, 55, 56, 57, 58, 59, 60, 61, 62, 63, 64] (by decide +kernel) (by decide +kernel)
set_option maxRecDepth 20000 in
theorem gX5_next_X5_gaugeAt : GoodIn wsX5_next (wsV RX5 72 RX5 yX5_gaugeAt wsX5_gaugeAt) := goodIn_app (goodIn_of _ (by decide +kernel)) ggX5_next_X5_gaugeAt
set_option maxRecDepth 20000 in
theorem ggX5_next_X5_spreadWith : GoodIn wsX5_next wsX5_spreadWith := goodIn_r _ [30, 31, 15, 16, 17, 3, 18, 19, 20, 5, 6, 7, 32, 33, 34, 35, 12, 36, 37, 38, 39, 25, 26, 40, 41, 42, 43, 44, 45, 46, 47, 48, 49, 50, 51, 52, 53, 54, 55, 56, 57, 58, 59, 60, 61, 62, 63, 64] (by decide +kernel) (by decide +kernel)
set_option maxRecDepth 20000 in
theorem gX5_next_X5_spreadWith : GoodIn wsX5_next (wsV RX5 150 RX5 yX5_spreadWith wsX5_spreadWith) := goodIn_app (goodIn_of _ (by decide +kernel)) ggX5_next_X5_spreadWith
theorem dX5_next_0 : decode cX5_next 0 = .ok (.iload_n 1, 1) := by decide +kernel
theorem dX5_next_1 : decode cX5_next 1 = .ok (.invokestatic 84, 3) := by decide +kernel
theorem dX5_next_4 : decode cX5_next 4 = .ok (.ifCond .eq 12, 3) := by decide +kernel
theorem dX5_next_7 : decode cX5_next 7 = .ok (.iload_n 2, 1) := by decide +kernel
theorem dX5_next_8 : decode cX5_next 8 = .ok (.iconst 0, 1) := by decide +kernel
theorem dX5_next_9 : decode cX5_next 9 = .ok (.iconst 2, 1) := by decide +kernel
theorem dX5_next_10 : decode cX5_next 10 = .ok (.invokestatic 57, 3) := by decide +kernel
theorem dX5_next_13 : decode cX5_next 13 = .ok (.ifCond .ne 6, 3) := by decide +kernel
theorem dX5_next_16 : decode cX5_next 16 = .ok (.bipush (-2), 2) := by decide +kernel
theorem dX5_next_18 : decode cX5_next 18 = .ok (.ireturn, 1) := by decide +kernel
theorem dX5_next_19 : decode cX5_next 19 = .ok (.aload_n 0, 1) := by decide +kernel
theorem dX5_next_20 : decode cX5_next 20 = .ok (.iload_n 1, 1) := by decide +kernel
theorem dX5_next_21 : decode cX5_next 21 = .ok (.invokevirtual 93, 3) := by decide +kernel
theorem dX5_next_24 : decode cX5_next 24 = .ok (.istore_n 3, 1) := by decide +kernel
theorem dX5_next_25 : decode cX5_next 25 = .ok (.bipush (-6), 2) := by decide +kernel
theorem dX5_next_27 : decode cX5_next 27 = .ok (.istore 4, 2) := by decide +kernel
theorem dX5_next_29 : decode cX5_next 29 = .ok (.iconst 0, 1) := by decide +kernel
theorem dX5_next_30 : decode cX5_next 30 = .ok (.istore 5, 2) := by decide +kernel
theorem dX5_next_32 : decode cX5_next 32 = .ok (.iconst 0, 1) := by decide +kernel
theorem dX5_next_33 : decode cX5_next 33 = .ok (.istore 6, 2) := by decide +kernel
theorem dX5_next_35 : decode cX5_next 35 = .ok (.iload 6, 2) := by decide +kernel
theorem dX5_next_37 : decode cX5_next 37 = .ok (.sipush 256, 3) := by decide +kernel
theorem dX5_next_40 : decode cX5_next 40 = .ok (.if_icmp .ge 80, 3) := by decide +kernel
theorem dX5_next_43 : decode cX5_next 43 = .ok (.aload_n 0, 1) := by decide +kernel
theorem dX5_next_44 : decode cX5_next 44 = .ok (.iload 6, 2) := by decide +kernel
theorem dX5_next_46 : decode cX5_next 46 = .ok (.bipush 16, 2) := by decide +kernel
theorem dX5_next_48 : decode cX5_next 48 = .ok (.irem, 1) := by decide +kernel
theorem dX5_next_49 : decode cX5_next 49 = .ok (.iload 6, 2) := by decide +kernel
theorem dX5_next_51 : decode cX5_next 51 = .ok (.bipush 16, 2) := by decide +kernel
theorem dX5_next_53 : decode cX5_next 53 = .ok (.idiv, 1) := by decide +kernel
theorem dX5_next_54 : decode cX5_next 54 = .ok (.invokevirtual 112, 3) := by decide +kernel
theorem dX5_next_57 : decode cX5_next 57 = .ok (.ifCond .eq 57, 3) := by decide +kernel
theorem dX5_next_60 : decode cX5_next 60 = .ok (.aload_n 0, 1) := by decide +kernel
theorem dX5_next_61 : decode cX5_next 61 = .ok (.iload 6, 2) := by decide +kernel
theorem dX5_next_63 : decode cX5_next 63 = .ok (.bipush 16, 2) := by decide +kernel
theorem dX5_next_65 : decode cX5_next 65 = .ok (.irem, 1) := by decide +kernel
theorem dX5_next_66 : decode cX5_next 66 = .ok (.iload 6, 2) := by decide +kernel
theorem dX5_next_68 : decode cX5_next 68 = .ok (.bipush 16, 2) := by decide +kernel
theorem dX5_next_70 : decode cX5_next 70 = .ok (.idiv, 1) := by decide +kernel
theorem dX5_next_71 : decode cX5_next 71 = .ok (.invokevirtual 72, 3) := by decide +kernel
theorem dX5_next_74 : decode cX5_next 74 = .ok (.ifCond .ge 40, 3) := by decide +kernel
theorem dX5_next_77 : decode cX5_next 77 = .ok (.aload_n 0, 1) := by decide +kernel
theorem dX5_next_78 : decode cX5_next 78 = .ok (.iload_n 3, 1) := by decide +kernel
theorem dX5_next_79 : decode cX5_next 79 = .ok (.iload 6, 2) := by decide +kernel
theorem dX5_next_81 : decode cX5_next 81 = .ok (.bipush 16, 2) := by decide +kernel
theorem dX5_next_83 : decode cX5_next 83 = .ok (.irem, 1) := by decide +kernel
theorem dX5_next_84 : decode cX5_next 84 = .ok (.iload 6, 2) := by decide +kernel
theorem dX5_next_86 : decode cX5_next 86 = .ok (.bipush 16, 2) := by decide +kernel
theorem dX5_next_88 : decode cX5_next 88 = .ok (.idiv, 1) := by decide +kernel
theorem dX5_next_89 : decode cX5_next 89 = .ok (.invokevirtual 150, 3) := by decide +kernel
theorem dX5_next_92 : decode cX5_next 92 = .ok (.istore 7, 2) := by decide +kernel
theorem dX5_next_94 : decode cX5_next 94 = .ok (.iload 4, 2) := by decide +kernel
theorem dX5_next_96 : decode cX5_next 96 = .ok (.ifCond .lt 10, 3) := by decide +kernel
theorem dX5_next_99 : decode cX5_next 99 = .ok (.iload 7, 2) := by decide +kernel
theorem dX5_next_101 : decode cX5_next 101 = .ok (.iload 5, 2) := by decide +kernel
theorem dX5_next_103 : decode cX5_next 103 = .ok (.if_icmp .ge 11, 3) := by decide +kernel
theorem dX5_next_106 : decode cX5_next 106 = .ok (.iload 6, 2) := by decide +kernel
theorem dX5_next_108 : decode cX5_next 108 = .ok (.istore 4, 2) := by decide +kernel
theorem dX5_next_110 : decode cX5_next 110 = .ok (.iload 7, 2) := by decide +kernel
theorem dX5_next_112 : decode cX5_next 112 = .ok (.istore 5, 2) := by decide +kernel
theorem dX5_next_114 : decode cX5_next 114 = .ok (.iinc 6 1, 3) := by decide +kernel
theorem dX5_next_117 : decode cX5_next 117 = .ok (.goto (-82), 3) := by decide +kernel
theorem dX5_next_120 : decode cX5_next 120 = .ok (.iload 4, 2) := by decide +kernel
theorem dX5_next_122 : decode cX5_next 122 = .ok (.ifCond .ge 8, 3) := by decide +kernel
theorem dX5_next_125 : decode cX5_next 125 = .ok (.bipush (-6), 2) := by decide +kernel
theorem dX5_next_127 : decode cX5_next 127 = .ok (.goto 30, 3) := by decide +kernel
theorem dX5_next_130 : decode cX5_next 130 = .ok (.iload_n 2, 1) := by decide +kernel
theorem dX5_next_131 : decode cX5_next 131 = .ok (.ifCond .ne 11, 3) := by decide +kernel
theorem dX5_next_134 : decode cX5_next 134 = .ok (.iload 4, 2) := by decide +kernel
theorem dX5_next_136 : decode cX5_next 136 = .ok (.bipush 16, 2) := by decide +kernel
theorem dX5_next_138 : decode cX5_next 138 = .ok (.irem, 1) := by decide +kernel
theorem dX5_next_139 : decode cX5_next 139 = .ok (.goto 18, 3) := by decide +kernel
theorem dX5_next_142 : decode cX5_next 142 = .ok (.iload_n 2, 1) := by decide +kernel
theorem dX5_next_143 : decode cX5_next 143 = .ok (.iconst 1, 1) := by decide +kernel
theorem dX5_next_144 : decode cX5_next 144 = .ok (.if_icmp .ne 11, 3) := by decide +kernel
theorem dX5_next_147 : decode cX5_next 147 = .ok (.iload 4, 2) := by decide +kernel
theorem dX5_next_149 : decode cX5_next 149 = .ok (.bipush 16, 2) := by decide +kernel
theorem dX5_next_151 : decode cX5_next 151 = .ok (.idiv, 1) := by decide +kernel
theorem dX5_next_152 : decode cX5_next 152 = .ok (.goto 5, 3) := by decide +kernel
theorem dX5_next_155 : decode cX5_next 155 = .ok (.iload 5, 2) := by decide +kernel
theorem dX5_next_157 : decode cX5_next 157 = .ok (.ireturn, 1) := by decide +kernel
set_option maxRecDepth 20000 in
theorem ggX5_sharedOf_X5_isPlot : GoodIn wsX5_sharedOf wsX5_isPlot := goodIn_r _ [5, 6, 7, 8, 9, 4, 10, 29, 30, 31, 32, 33, 34, 35, 36, 37, 38, 39, 40, 41, 42, 43, 44, 45, 46, 47] (by decide +kernel) (by decide +kernel)
set_option maxRecDepth 20000 in
theorem gX5_sharedOf_X5_isPlot : GoodIn wsX5_sharedOf (wsV RX5 112 RX5 yX5_isPlot wsX5_isPlot) := goodIn_app (goodIn_of _ (by decide +kernel)) ggX5_sharedOf_X5_isPlot
set_option maxRecDepth 20000 in
theorem ggX5_sharedOf_X5_ownerOf : GoodIn wsX5_sharedOf wsX5_ownerOf := goodIn_r _ [14, 15, 16, 17, 18, 19, 4, 20, 21, 22, 23, 24, 25, 26, 27, 28, 29, 30, 31, 32, 33, 34, 35, 36, 37, 38, 39, 40, 41, 42, 43, 44, 45, 46, 47] (by decide +kernel) (by decide +kernel)
set_option maxRecDepth 20000 in
theorem gX5_sharedOf_X5_ownerOf : GoodIn wsX5_sharedOf (wsV RX5 119 RX5 yX5_ownerOf wsX5_ownerOf) := goodIn_app (goodIn_of _ (by decide +kernel)) ggX5_sharedOf_X5_ownerOf
theorem dX5_sharedOf_0 : decode cX5_sharedOf 0 = .ok (.iconst 0, 1) := by decide +kernel
theorem dX5_sharedOf_1 : decode cX5_sharedOf 1 = .ok (.istore 4, 2) := by decide +kernel
theorem dX5_sharedOf_3 : decode cX5_sharedOf 3 = .ok (.iconst 0, 1) := by decide +kernel
theorem dX5_sharedOf_4 : decode cX5_sharedOf 4 = .ok (.istore 5, 2) := by decide +kernel
theorem dX5_sharedOf_6 : decode cX5_sharedOf 6 = .ok (.iload 5, 2) := by decide +kernel
theorem dX5_sharedOf_8 : decode cX5_sharedOf 8 = .ok (.sipush 256, 3) := by decide +kernel
theorem dX5_sharedOf_11 : decode cX5_sharedOf 11 = .ok (.if_icmp .ge 80, 3) := by decide +kernel
theorem dX5_sharedOf_14 : decode cX5_sharedOf 14 = .ok (.iload 5, 2) := by decide +kernel
theorem dX5_sharedOf_16 : decode cX5_sharedOf 16 = .ok (.bipush 16, 2) := by decide +kernel
theorem dX5_sharedOf_18 : decode cX5_sharedOf 18 = .ok (.irem, 1) := by decide +kernel
theorem dX5_sharedOf_19 : decode cX5_sharedOf 19 = .ok (.istore 6, 2) := by decide +kernel
theorem dX5_sharedOf_21 : decode cX5_sharedOf 21 = .ok (.iload 5, 2) := by decide +kernel
theorem dX5_sharedOf_23 : decode cX5_sharedOf 23 = .ok (.bipush 16, 2) := by decide +kernel
theorem dX5_sharedOf_25 : decode cX5_sharedOf 25 = .ok (.idiv, 1) := by decide +kernel
theorem dX5_sharedOf_26 : decode cX5_sharedOf 26 = .ok (.istore 7, 2) := by decide +kernel
theorem dX5_sharedOf_28 : decode cX5_sharedOf 28 = .ok (.iload 4, 2) := by decide +kernel
theorem dX5_sharedOf_30 : decode cX5_sharedOf 30 = .ok (.aload_n 0, 1) := by decide +kernel
theorem dX5_sharedOf_31 : decode cX5_sharedOf 31 = .ok (.iload 6, 2) := by decide +kernel
theorem dX5_sharedOf_33 : decode cX5_sharedOf 33 = .ok (.iload 7, 2) := by decide +kernel
theorem dX5_sharedOf_35 : decode cX5_sharedOf 35 = .ok (.invokevirtual 112, 3) := by decide +kernel
theorem dX5_sharedOf_38 : decode cX5_sharedOf 38 = .ok (.ifCond .eq 43, 3) := by decide +kernel
theorem dX5_sharedOf_41 : decode cX5_sharedOf 41 = .ok (.aload_n 0, 1) := by decide +kernel
theorem dX5_sharedOf_42 : decode cX5_sharedOf 42 = .ok (.iload_n 1, 1) := by decide +kernel
theorem dX5_sharedOf_43 : decode cX5_sharedOf 43 = .ok (.iconst 1, 1) := by decide +kernel
theorem dX5_sharedOf_44 : decode cX5_sharedOf 44 = .ok (.iload_n 2, 1) := by decide +kernel
theorem dX5_sharedOf_45 : decode cX5_sharedOf 45 = .ok (.ishl, 1) := by decide +kernel
theorem dX5_sharedOf_46 : decode cX5_sharedOf 46 = .ok (.ior, 1) := by decide +kernel
theorem dX5_sharedOf_47 : decode cX5_sharedOf 47 = .ok (.iload 6, 2) := by decide +kernel
theorem dX5_sharedOf_49 : decode cX5_sharedOf 49 = .ok (.iload 7, 2) := by decide +kernel
theorem dX5_sharedOf_51 : decode cX5_sharedOf 51 = .ok (.invokevirtual 119, 3) := by decide +kernel
theorem dX5_sharedOf_54 : decode cX5_sharedOf 54 = .ok (.iload_n 2, 1) := by decide +kernel
theorem dX5_sharedOf_55 : decode cX5_sharedOf 55 = .ok (.if_icmp .ne 26, 3) := by decide +kernel
theorem dX5_sharedOf_58 : decode cX5_sharedOf 58 = .ok (.aload_n 0, 1) := by decide +kernel
theorem dX5_sharedOf_59 : decode cX5_sharedOf 59 = .ok (.iload_n 1, 1) := by decide +kernel
theorem dX5_sharedOf_60 : decode cX5_sharedOf 60 = .ok (.iconst 1, 1) := by decide +kernel
theorem dX5_sharedOf_61 : decode cX5_sharedOf 61 = .ok (.iload_n 2, 1) := by decide +kernel
theorem dX5_sharedOf_62 : decode cX5_sharedOf 62 = .ok (.ishl, 1) := by decide +kernel
theorem dX5_sharedOf_63 : decode cX5_sharedOf 63 = .ok (.iconst (-1), 1) := by decide +kernel
theorem dX5_sharedOf_64 : decode cX5_sharedOf 64 = .ok (.ixor, 1) := by decide +kernel
theorem dX5_sharedOf_65 : decode cX5_sharedOf 65 = .ok (.iand, 1) := by decide +kernel
theorem dX5_sharedOf_66 : decode cX5_sharedOf 66 = .ok (.iload 6, 2) := by decide +kernel
theorem dX5_sharedOf_68 : decode cX5_sharedOf 68 = .ok (.iload 7, 2) := by decide +kernel
theorem dX5_sharedOf_70 : decode cX5_sharedOf 70 = .ok (.invokevirtual 119, 3) := by decide +kernel
theorem dX5_sharedOf_73 : decode cX5_sharedOf 73 = .ok (.iload_n 3, 1) := by decide +kernel
theorem dX5_sharedOf_74 : decode cX5_sharedOf 74 = .ok (.if_icmp .ne 7, 3) := by decide +kernel
theorem dX5_sharedOf_77 : decode cX5_sharedOf 77 = .ok (.iconst 1, 1) := by decide +kernel
theorem dX5_sharedOf_78 : decode cX5_sharedOf 78 = .ok (.goto 4, 3) := by decide +kernel
theorem dX5_sharedOf_81 : decode cX5_sharedOf 81 = .ok (.iconst 0, 1) := by decide +kernel
theorem dX5_sharedOf_82 : decode cX5_sharedOf 82 = .ok (.iadd, 1) := by decide +kernel
theorem dX5_sharedOf_83 : decode cX5_sharedOf 83 = .ok (.istore 4, 2) := by decide +kernel
theorem dX5_sharedOf_85 : decode cX5_sharedOf 85 = .ok (.iinc 5 1, 3) := by decide +kernel
theorem dX5_sharedOf_88 : decode cX5_sharedOf 88 = .ok (.goto (-82), 3) := by decide +kernel
theorem dX5_sharedOf_91 : decode cX5_sharedOf 91 = .ok (.iload 4, 2) := by decide +kernel
theorem dX5_sharedOf_93 : decode cX5_sharedOf 93 = .ok (.ireturn, 1) := by decide +kernel
theorem dX5_without_0 : decode cX5_without 0 = .ok (.iload_n 0, 1) := by decide +kernel
theorem dX5_without_1 : decode cX5_without 1 = .ok (.iconst 1, 1) := by decide +kernel
theorem dX5_without_2 : decode cX5_without 2 = .ok (.iload_n 1, 1) := by decide +kernel
theorem dX5_without_3 : decode cX5_without 3 = .ok (.ishl, 1) := by decide +kernel
theorem dX5_without_4 : decode cX5_without 4 = .ok (.iconst (-1), 1) := by decide +kernel
theorem dX5_without_5 : decode cX5_without 5 = .ok (.ixor, 1) := by decide +kernel
theorem dX5_without_6 : decode cX5_without 6 = .ok (.iand, 1) := by decide +kernel
theorem dX5_without_7 : decode cX5_without 7 = .ok (.ireturn, 1) := by decide +kernel
set_option maxRecDepth 20000 in
theorem ggX5_lookUpBoth_X5_lookUp : GoodIn wsX5_lookUpBoth wsX5_lookUp := goodIn_r _ [5, 6, 7, 8, 9, 10, 14, 15, 16, 17, 18, 19, 20, 21, 22, 23, 24, 25, 26, 27, 28, 29, 30, 31, 32] (by decide +kernel) (by decide +kernel)
set_option maxRecDepth 20000 in
theorem gX5_lookUpBoth_X5_lookUp : GoodIn wsX5_lookUpBoth (wsV RX5 115 RX5 yX5_lookUp wsX5_lookUp) := goodIn_app (goodIn_of _ (by decide +kernel)) ggX5_lookUpBoth_X5_lookUp
set_option maxRecDepth 20000 in
theorem ggX5_lookUpBoth_X5_without : GoodIn wsX5_lookUpBoth wsX5_without := goodIn_r _ [13] (by decide +kernel) (by decide +kernel)
set_option maxRecDepth 20000 in
theorem gX5_lookUpBoth_X5_without : GoodIn wsX5_lookUpBoth (va_wsS RX5 153 yX5_without wsX5_without) := goodIn_app (goodIn_of _ (by decide +kernel)) ggX5_lookUpBoth_X5_without
theorem dX5_lookUpBoth_0 : decode cX5_lookUpBoth 0 = .ok (.aload_n 0, 1) := by decide +kernel
theorem dX5_lookUpBoth_1 : decode cX5_lookUpBoth 1 = .ok (.iload_n 1, 1) := by decide +kernel
theorem dX5_lookUpBoth_2 : decode cX5_lookUpBoth 2 = .ok (.iconst 1, 1) := by decide +kernel
theorem dX5_lookUpBoth_3 : decode cX5_lookUpBoth 3 = .ok (.iload_n 2, 1) := by decide +kernel
theorem dX5_lookUpBoth_4 : decode cX5_lookUpBoth 4 = .ok (.ishl, 1) := by decide +kernel
theorem dX5_lookUpBoth_5 : decode cX5_lookUpBoth 5 = .ok (.ior, 1) := by decide +kernel
theorem dX5_lookUpBoth_6 : decode cX5_lookUpBoth 6 = .ok (.invokevirtual 115, 3) := by decide +kernel
theorem dX5_lookUpBoth_9 : decode cX5_lookUpBoth 9 = .ok (.aload_n 0, 1) := by decide +kernel
theorem dX5_lookUpBoth_10 : decode cX5_lookUpBoth 10 = .ok (.iload_n 1, 1) := by decide +kernel
theorem dX5_lookUpBoth_11 : decode cX5_lookUpBoth 11 = .ok (.iload_n 2, 1) := by decide +kernel
theorem dX5_lookUpBoth_12 : decode cX5_lookUpBoth 12 = .ok (.invokestatic 153, 3) := by decide +kernel
theorem dX5_lookUpBoth_15 : decode cX5_lookUpBoth 15 = .ok (.invokevirtual 115, 3) := by decide +kernel
theorem dX5_lookUpBoth_18 : decode cX5_lookUpBoth 18 = .ok (.return_, 1) := by decide +kernel
set_option maxRecDepth 20000 in
theorem ggX5_shared_X5_isGauge : GoodIn wsX5_shared wsX5_isGauge := goodIn_r _ [5, 6, 7, 8, 4, 9, 62, 63, 64, 65, 66, 67, 68, 69, 70, 71, 72, 73, 74, 75, 76, 77, 78, 79, 80] (by decide +kernel) (by decide +kernel)
set_option maxRecDepth 20000 in
theorem gX5_shared_X5_isGauge : GoodIn wsX5_shared (wsV RX5 76 RX5 yX5_isGauge wsX5_isGauge) := goodIn_app (goodIn_of _ (by decide +kernel)) ggX5_shared_X5_isGauge
set_option maxRecDepth 20000 in
theorem ggX5_shared_X5_isDay : GoodIn wsX5_shared wsX5_isDay := goodIn_r _ [12, 7, 8, 4, 9] (by decide +kernel) (by decide +kernel)
set_option maxRecDepth 20000 in
theorem gX5_shared_X5_isDay : GoodIn wsX5_shared (va_wsS RX5 84 yX5_isDay wsX5_isDay) := goodIn_app (goodIn_of _ (by decide +kernel)) ggX5_shared_X5_isDay
set_option maxRecDepth 20000 in
theorem ggX5_shared_X5_workingOn : GoodIn wsX5_shared wsX5_workingOn := goodIn_r _ [16, 6, 17, 18, 62, 63, 64, 65, 66, 67, 68, 69, 70, 71, 72, 73, 74, 75, 76, 77, 78, 79, 80] (by decide +kernel) (by decide +kernel)
set_option maxRecDepth 20000 in
theorem gX5_shared_X5_workingOn : GoodIn wsX5_shared (wsV RX5 93 RX5 yX5_workingOn wsX5_workingOn) := goodIn_app (goodIn_of _ (by decide +kernel)) ggX5_shared_X5_workingOn
set_option maxRecDepth 20000 in
theorem ggX5_shared_X5_without : GoodIn wsX5_shared wsX5_without := goodIn_r _ [21] (by decide +kernel) (by decide +kernel)
set_option maxRecDepth 20000 in
theorem gX5_shared_X5_without : GoodIn wsX5_shared (va_wsS RX5 153 yX5_without wsX5_without) := goodIn_app (goodIn_of _ (by decide +kernel)) ggX5_shared_X5_without
set_option maxRecDepth 20000 in
theorem ggX5_shared_X5_lookUpBoth : GoodIn wsX5_shared wsX5_lookUpBoth := goodIn_r _ [25, 26, 27, 28, 4, 29, 30, 31, 32, 33, 34, 19, 20, 21, 62, 63, 64, 65, 66, 67, 68, 69, 70, 71, 72, 73, 74, 75, 76, 77, 78, 79, 80] (by decide +kernel) (by decide +kernel)
set_option maxRecDepth 20000 in
theorem gX5_shared_X5_lookUpBoth : GoodIn wsX5_shared (wsV RX5 156 RX5 yX5_lookUpBoth wsX5_lookUpBoth) := goodIn_app (goodIn_of _ (by decide +kernel)) ggX5_shared_X5_lookUpBoth
set_option maxRecDepth 20000 in
theorem ggX5_shared_X5_has : GoodIn wsX5_shared wsX5_has := goodIn_r _ [37] (by decide +kernel) (by decide +kernel)
set_option maxRecDepth 20000 in
theorem gX5_shared_X5_has : GoodIn wsX5_shared (va_wsS RX5 100 yX5_has wsX5_has) := goodIn_app (goodIn_of _ (by decide +kernel)) ggX5_shared_X5_has
set_option maxRecDepth 20000 in
theorem ggX5_shared_X5_sharedOf : GoodIn wsX5_shared wsX5_sharedOf := goodIn_r _ [41, 42, 43, 44, 4, 45, 46, 47, 7, 8, 9, 48, 49, 50, 51, 6, 52, 53, 54, 55, 56, 57, 58, 59, 60, 61, 35, 36, 37, 62, 63, 64, 65, 66, 67, 68, 69, 70, 71, 72, 73, 74, 75, 76, 77, 78, 79, 80] (by decide +kernel) (by decide +kernel)
set_option maxRecDepth 20000 in
theorem gX5_shared_X5_sharedOf : GoodIn wsX5_shared (wsV RX5 160 RX5 yX5_sharedOf wsX5_sharedOf) := goodIn_app (goodIn_of _ (by decide +kernel)) ggX5_shared_X5_sharedOf
theorem dX5_shared_0 : decode cX5_shared 0 = .ok (.aload_n 0, 1) := by decide +kernel
theorem dX5_shared_1 : decode cX5_shared 1 = .ok (.iload_n 2, 1) := by decide +kernel
theorem dX5_shared_2 : decode cX5_shared 2 = .ok (.invokevirtual 76, 3) := by decide +kernel
theorem dX5_shared_5 : decode cX5_shared 5 = .ok (.ifCond .eq 11, 3) := by decide +kernel
theorem dX5_shared_8 : decode cX5_shared 8 = .ok (.aload_n 0, 1) := by decide +kernel
theorem dX5_shared_9 : decode cX5_shared 9 = .ok (.iload_n 3, 1) := by decide +kernel
theorem dX5_shared_10 : decode cX5_shared 10 = .ok (.invokevirtual 76, 3) := by decide +kernel
theorem dX5_shared_13 : decode cX5_shared 13 = .ok (.ifCond .ne 5, 3) := by decide +kernel
theorem dX5_shared_16 : decode cX5_shared 16 = .ok (.iconst (-1), 1) := by decide +kernel
theorem dX5_shared_17 : decode cX5_shared 17 = .ok (.ireturn, 1) := by decide +kernel
theorem dX5_shared_18 : decode cX5_shared 18 = .ok (.iload_n 1, 1) := by decide +kernel
theorem dX5_shared_19 : decode cX5_shared 19 = .ok (.invokestatic 84, 3) := by decide +kernel
theorem dX5_shared_22 : decode cX5_shared 22 = .ok (.ifCond .eq 8, 3) := by decide +kernel
theorem dX5_shared_25 : decode cX5_shared 25 = .ok (.iload_n 2, 1) := by decide +kernel
theorem dX5_shared_26 : decode cX5_shared 26 = .ok (.iload_n 3, 1) := by decide +kernel
theorem dX5_shared_27 : decode cX5_shared 27 = .ok (.if_icmp .ne 6, 3) := by decide +kernel
theorem dX5_shared_30 : decode cX5_shared 30 = .ok (.bipush (-2), 2) := by decide +kernel
theorem dX5_shared_32 : decode cX5_shared 32 = .ok (.ireturn, 1) := by decide +kernel
theorem dX5_shared_33 : decode cX5_shared 33 = .ok (.aload_n 0, 1) := by decide +kernel
theorem dX5_shared_34 : decode cX5_shared 34 = .ok (.iload_n 1, 1) := by decide +kernel
theorem dX5_shared_35 : decode cX5_shared 35 = .ok (.invokevirtual 93, 3) := by decide +kernel
theorem dX5_shared_38 : decode cX5_shared 38 = .ok (.istore 4, 2) := by decide +kernel
theorem dX5_shared_40 : decode cX5_shared 40 = .ok (.iload 4, 2) := by decide +kernel
theorem dX5_shared_42 : decode cX5_shared 42 = .ok (.iload_n 2, 1) := by decide +kernel
theorem dX5_shared_43 : decode cX5_shared 43 = .ok (.invokestatic 153, 3) := by decide +kernel
theorem dX5_shared_46 : decode cX5_shared 46 = .ok (.ifCond .ne 6, 3) := by decide +kernel
theorem dX5_shared_49 : decode cX5_shared 49 = .ok (.bipush (-3), 2) := by decide +kernel
theorem dX5_shared_51 : decode cX5_shared 51 = .ok (.ireturn, 1) := by decide +kernel
theorem dX5_shared_52 : decode cX5_shared 52 = .ok (.aload_n 0, 1) := by decide +kernel
theorem dX5_shared_53 : decode cX5_shared 53 = .ok (.iload 4, 2) := by decide +kernel
theorem dX5_shared_55 : decode cX5_shared 55 = .ok (.iload_n 2, 1) := by decide +kernel
theorem dX5_shared_56 : decode cX5_shared 56 = .ok (.invokevirtual 156, 3) := by decide +kernel
theorem dX5_shared_59 : decode cX5_shared 59 = .ok (.iload 4, 2) := by decide +kernel
theorem dX5_shared_61 : decode cX5_shared 61 = .ok (.iload_n 3, 1) := by decide +kernel
theorem dX5_shared_62 : decode cX5_shared 62 = .ok (.invokestatic 100, 3) := by decide +kernel
theorem dX5_shared_65 : decode cX5_shared 65 = .ok (.ifCond .eq 14, 3) := by decide +kernel
theorem dX5_shared_68 : decode cX5_shared 68 = .ok (.aload_n 0, 1) := by decide +kernel
theorem dX5_shared_69 : decode cX5_shared 69 = .ok (.iload 4, 2) := by decide +kernel
theorem dX5_shared_71 : decode cX5_shared 71 = .ok (.iload_n 2, 1) := by decide +kernel
theorem dX5_shared_72 : decode cX5_shared 72 = .ok (.iload_n 3, 1) := by decide +kernel
theorem dX5_shared_73 : decode cX5_shared 73 = .ok (.invokevirtual 160, 3) := by decide +kernel
theorem dX5_shared_76 : decode cX5_shared 76 = .ok (.goto 4, 3) := by decide +kernel
theorem dX5_shared_79 : decode cX5_shared 79 = .ok (.iconst 0, 1) := by decide +kernel
theorem dX5_shared_80 : decode cX5_shared 80 = .ok (.ireturn, 1) := by decide +kernel
set_option maxRecDepth 20000 in
theorem ggX5_sharedWater_X5_workingOn : GoodIn wsX5_sharedWater wsX5_workingOn := goodIn_r _ [7, 1, 8, 2, 39, 40, 41, 42, 43, 44, 45, 46, 47, 48, 49, 50, 51, 52, 53, 54, 55, 56, 57] (by decide +kernel) (by decide +kernel)
set_option maxRecDepth 20000 in
theorem gX5_sharedWater_X5_workingOn : GoodIn wsX5_sharedWater (wsV RX5 93 RX5 yX5_workingOn wsX5_workingOn) := goodIn_app (goodIn_of _ (by decide +kernel)) ggX5_sharedWater_X5_workingOn
set_option maxRecDepth 20000 in
theorem ggX5_sharedWater_X5_has : GoodIn wsX5_sharedWater wsX5_has := goodIn_r _ [11] (by decide +kernel) (by decide +kernel)
set_option maxRecDepth 20000 in
theorem gX5_sharedWater_X5_has : GoodIn wsX5_sharedWater (va_wsS RX5 100 yX5_has wsX5_has) := goodIn_app (goodIn_of _ (by decide +kernel)) ggX5_sharedWater_X5_has
set_option maxRecDepth 20000 in
theorem ggX5_sharedWater_X5_sharedOf : GoodIn wsX5_sharedWater wsX5_sharedOf := goodIn_r _ [15, 16, 17, 18, 6, 19, 20, 21, 22, 23, 24, 25, 26, 27, 28, 1, 29, 30, 31, 32, 33, 34, 35, 36, 37, 38, 9, 10, 11, 39, 40, 41, 42, 43, 44, 45, 46, 47, 48, 49, 50, 51, 52, 53, 54, 55, 56, 57] (by decide +kernel) (by decide +kernel)
set_option maxRecDepth 20000 in
theorem gX5_sharedWater_X5_sharedOf : GoodIn wsX5_sharedWater (wsV RX5 160 RX5 yX5_sharedOf wsX5_sharedOf) := goodIn_app (goodIn_of _ (by decide +kernel)) ggX5_sharedWater_X5_sharedOf
theorem dX5_sharedWater_0 : decode cX5_sharedWater 0 = .ok (.aload_n 0, 1) := by decide +kernel
theorem dX5_sharedWater_1 : decode cX5_sharedWater 1 = .ok (.iload_n 1, 1) := by decide +kernel
theorem dX5_sharedWater_2 : decode cX5_sharedWater 2 = .ok (.invokevirtual 93, 3) := by decide +kernel
theorem dX5_sharedWater_5 : decode cX5_sharedWater 5 = .ok (.istore_n 3, 1) := by decide +kernel
theorem dX5_sharedWater_6 : decode cX5_sharedWater 6 = .ok (.iconst 0, 1) := by decide +kernel
theorem dX5_sharedWater_7 : decode cX5_sharedWater 7 = .ok (.istore 4, 2) := by decide +kernel
theorem dX5_sharedWater_9 : decode cX5_sharedWater 9 = .ok (.iconst 0, 1) := by decide +kernel
theorem dX5_sharedWater_10 : decode cX5_sharedWater 10 = .ok (.istore 5, 2) := by decide +kernel
theorem dX5_sharedWater_12 : decode cX5_sharedWater 12 = .ok (.iload 5, 2) := by decide +kernel
theorem dX5_sharedWater_14 : decode cX5_sharedWater 14 = .ok (.aload_n 0, 1) := by decide +kernel
theorem dX5_sharedWater_15 : decode cX5_sharedWater 15 = .ok (.getfield 53, 3) := by decide +kernel
theorem dX5_sharedWater_18 : decode cX5_sharedWater 18 = .ok (.if_icmp .ge 54, 3) := by decide +kernel
theorem dX5_sharedWater_21 : decode cX5_sharedWater 21 = .ok (.iload 4, 2) := by decide +kernel
theorem dX5_sharedWater_23 : decode cX5_sharedWater 23 = .ok (.iload 5, 2) := by decide +kernel
theorem dX5_sharedWater_25 : decode cX5_sharedWater 25 = .ok (.iload_n 2, 1) := by decide +kernel
theorem dX5_sharedWater_26 : decode cX5_sharedWater 26 = .ok (.if_icmp .eq 36, 3) := by decide +kernel
theorem dX5_sharedWater_29 : decode cX5_sharedWater 29 = .ok (.iload_n 3, 1) := by decide +kernel
theorem dX5_sharedWater_30 : decode cX5_sharedWater 30 = .ok (.iload 5, 2) := by decide +kernel
theorem dX5_sharedWater_32 : decode cX5_sharedWater 32 = .ok (.invokestatic 100, 3) := by decide +kernel
theorem dX5_sharedWater_35 : decode cX5_sharedWater 35 = .ok (.ifCond .eq 27, 3) := by decide +kernel
theorem dX5_sharedWater_38 : decode cX5_sharedWater 38 = .ok (.aload_n 0, 1) := by decide +kernel
theorem dX5_sharedWater_39 : decode cX5_sharedWater 39 = .ok (.iload_n 3, 1) := by decide +kernel
theorem dX5_sharedWater_40 : decode cX5_sharedWater 40 = .ok (.iload_n 2, 1) := by decide +kernel
theorem dX5_sharedWater_41 : decode cX5_sharedWater 41 = .ok (.iload 5, 2) := by decide +kernel
theorem dX5_sharedWater_43 : decode cX5_sharedWater 43 = .ok (.invokevirtual 160, 3) := by decide +kernel
theorem dX5_sharedWater_46 : decode cX5_sharedWater 46 = .ok (.aload_n 0, 1) := by decide +kernel
theorem dX5_sharedWater_47 : decode cX5_sharedWater 47 = .ok (.getfield 29, 3) := by decide +kernel
theorem dX5_sharedWater_50 : decode cX5_sharedWater 50 = .ok (.bipush 64, 2) := by decide +kernel
theorem dX5_sharedWater_52 : decode cX5_sharedWater 52 = .ok (.iload 5, 2) := by decide +kernel
theorem dX5_sharedWater_54 : decode cX5_sharedWater 54 = .ok (.imul, 1) := by decide +kernel
theorem dX5_sharedWater_55 : decode cX5_sharedWater 55 = .ok (.iload_n 1, 1) := by decide +kernel
theorem dX5_sharedWater_56 : decode cX5_sharedWater 56 = .ok (.iadd, 1) := by decide +kernel
theorem dX5_sharedWater_57 : decode cX5_sharedWater 57 = .ok (.iaload, 1) := by decide +kernel
theorem dX5_sharedWater_58 : decode cX5_sharedWater 58 = .ok (.imul, 1) := by decide +kernel
theorem dX5_sharedWater_59 : decode cX5_sharedWater 59 = .ok (.goto 4, 3) := by decide +kernel
theorem dX5_sharedWater_62 : decode cX5_sharedWater 62 = .ok (.iconst 0, 1) := by decide +kernel
theorem dX5_sharedWater_63 : decode cX5_sharedWater 63 = .ok (.iadd, 1) := by decide +kernel
theorem dX5_sharedWater_64 : decode cX5_sharedWater 64 = .ok (.istore 4, 2) := by decide +kernel
theorem dX5_sharedWater_66 : decode cX5_sharedWater 66 = .ok (.iinc 5 1, 3) := by decide +kernel
theorem dX5_sharedWater_69 : decode cX5_sharedWater 69 = .ok (.goto (-57), 3) := by decide +kernel
theorem dX5_sharedWater_72 : decode cX5_sharedWater 72 = .ok (.iload 4, 2) := by decide +kernel
theorem dX5_sharedWater_74 : decode cX5_sharedWater 74 = .ok (.ireturn, 1) := by decide +kernel
set_option maxRecDepth 20000 in
theorem ggX5_estimate_X5_isGauge : GoodIn wsX5_estimate wsX5_isGauge := goodIn_r _ [5, 6, 7, 8, 4, 9, 76, 77, 78, 79, 80, 81, 82, 83, 84, 85, 86, 87, 88, 89, 90, 91, 92, 93, 94] (by decide +kernel) (by decide +kernel)
set_option maxRecDepth 20000 in
theorem gX5_estimate_X5_isGauge : GoodIn wsX5_estimate (wsV RX5 76 RX5 yX5_isGauge wsX5_isGauge) := goodIn_app (goodIn_of _ (by decide +kernel)) ggX5_estimate_X5_isGauge
set_option maxRecDepth 20000 in
theorem ggX5_estimate_X5_isDay : GoodIn wsX5_estimate wsX5_isDay := goodIn_r _ [12, 7, 8, 4, 9] (by decide +kernel) (by decide +kernel)
set_option maxRecDepth 20000 in
theorem gX5_estimate_X5_isDay : GoodIn wsX5_estimate (va_wsS RX5 84 yX5_isDay wsX5_isDay) := goodIn_app (goodIn_of _ (by decide +kernel)) ggX5_estimate_X5_isDay
set_option maxRecDepth 20000 in
theorem ggX5_estimate_X5_in : GoodIn wsX5_estimate wsX5_in := goodIn_r _ [9] (by decide +kernel) (by decide +kernel)
set_option maxRecDepth 20000 in
theorem gX5_estimate_X5_in : GoodIn wsX5_estimate (va_wsS RX5 57 yX5_in wsX5_in) := goodIn_app (goodIn_of _ (by decide +kernel)) ggX5_estimate_X5_in
set_option maxRecDepth 20000 in
theorem ggX5_estimate_X5_workingOn : GoodIn wsX5_estimate wsX5_workingOn := goodIn_r _ [16, 6, 17, 18, 76, 77, 78, 79, 80, 81, 82, 83, 84, 85, 86, 87, 88, 89, 90, 91, 92, 93, 94] (by decide +kernel) (by decide +kernel)
set_option maxRecDepth 20000 in
theorem gX5_estimate_X5_workingOn : GoodIn wsX5_estimate (wsV RX5 93 RX5 yX5_workingOn wsX5_workingOn) := goodIn_app (goodIn_of _ (by decide +kernel)) ggX5_estimate_X5_workingOn
set_option maxRecDepth 20000 in
theorem ggX5_estimate_X5_without : GoodIn wsX5_estimate wsX5_without := goodIn_r _ [21] (by decide +kernel) (by decide +kernel)
set_option maxRecDepth 20000 in
theorem gX5_estimate_X5_without : GoodIn wsX5_estimate (va_wsS RX5 153 yX5_without wsX5_without) := goodIn_app (goodIn_of _ (by decide +kernel)) ggX5_estimate_X5_without
set_option maxRecDepth 20000 in
theorem ggX5_estimate_X5_lookUpBoth : GoodIn wsX5_estimate wsX5_lookUpBoth := goodIn_r _ [25, 26, 27, 28, 4, 29, 30, 31, 32, 33, 34, 19, 20, 21, 76, 77, 78, 79, 80, 81, 82, 83, 84, 85, 86, 87, 88, 89, 90, 91, 92, 93, 94] (by decide +kernel) (by decide +kernel)
set_option maxRecDepth 20000 in
theorem gX5_estimate_X5_lookUpBoth : GoodIn wsX5_estimate (wsV RX5 156 RX5 yX5_lookUpBoth wsX5_lookUpBoth) := goodIn_app (goodIn_of _ (by decide +kernel)) ggX5_estimate_X5_lookUpBoth
set_option maxRecDepth 20000 in
theorem ggX5_estimate_X5_size : GoodIn wsX5_estimate wsX5_size := goodIn_r _ [38, 39, 40, 41, 4, 42, 43, 44, 7, 8, 9, 45, 46, 47, 48, 6, 49, 50, 51, 52, 53, 54, 55, 56, 57, 58, 59, 60, 61, 76, 77, 78, 79, 80, 81, 82, 83, 84, 85, 86, 87, 88, 89, 90, 91, 92, 93, 94] (by decide +kernel) (by decide +kernel)
set_option maxRecDepth 20000 in
theorem gX5_estimate_X5_size : GoodIn wsX5_estimate (wsV RX5 125 RX5 yX5_size wsX5_size) := goodIn_app (goodIn_of _ (by decide +kernel)) ggX5_estimate_X5_size
set_option maxRecDepth 20000 in
theorem ggX5_estimate_X5_sharedWater : GoodIn wsX5_estimate wsX5_sharedWater := goodIn_r _ [65, 6, 18, 13, 14, 15, 4, 16, 17, 59, 60, 61, 66, 67, 68, 69, 39, 40, 41, 42, 43, 44, 7, 8, 9, 45, 46, 47, 48, 49, 50, 51, 52, 53, 54, 55, 56, 57, 58, 76, 77, 78, 79, 80, 81, 82, 83, 84, 85, 86, 87, 88, 89, 90, 91, 92, 93, 94] (by decide +kernel) (by decide +kernel)
set_option maxRecDepth 20000 in
theorem gX5_estimate_X5_sharedWater : GoodIn wsX5_estimate (wsV RX5 163 RX5 yX5_sharedWater wsX5_sharedWater) := goodIn_app (goodIn_of _ (by decide +kernel)) ggX5_estimate_X5_sharedWater
set_option maxRecDepth 20000 in
theorem ggX5_estimate_X5_part : GoodIn wsX5_estimate wsX5_part := goodIn_r _ [72, 73, 74, 4, 75] (by decide +kernel) (by decide +kernel)
set_option maxRecDepth 20000 in
theorem gX5_estimate_X5_part : GoodIn wsX5_estimate (va_wsS RX5 131 yX5_part wsX5_part) := goodIn_app (goodIn_of _ (by decide +kernel)) ggX5_estimate_X5_part
theorem dX5_estimate_0 : decode cX5_estimate 0 = .ok (.aload_n 0, 1) := by decide +kernel
theorem dX5_estimate_1 : decode cX5_estimate 1 = .ok (.iload_n 2, 1) := by decide +kernel
theorem dX5_estimate_2 : decode cX5_estimate 2 = .ok (.invokevirtual 76, 3) := by decide +kernel
theorem dX5_estimate_5 : decode cX5_estimate 5 = .ok (.ifCond .ne 5, 3) := by decide +kernel
theorem dX5_estimate_8 : decode cX5_estimate 8 = .ok (.iconst (-1), 1) := by decide +kernel
theorem dX5_estimate_9 : decode cX5_estimate 9 = .ok (.ireturn, 1) := by decide +kernel
theorem dX5_estimate_10 : decode cX5_estimate 10 = .ok (.iload_n 1, 1) := by decide +kernel
theorem dX5_estimate_11 : decode cX5_estimate 11 = .ok (.invokestatic 84, 3) := by decide +kernel
theorem dX5_estimate_14 : decode cX5_estimate 14 = .ok (.ifCond .eq 12, 3) := by decide +kernel
theorem dX5_estimate_17 : decode cX5_estimate 17 = .ok (.iload_n 3, 1) := by decide +kernel
theorem dX5_estimate_18 : decode cX5_estimate 18 = .ok (.iconst 0, 1) := by decide +kernel
theorem dX5_estimate_19 : decode cX5_estimate 19 = .ok (.iconst 1, 1) := by decide +kernel
theorem dX5_estimate_20 : decode cX5_estimate 20 = .ok (.invokestatic 57, 3) := by decide +kernel
theorem dX5_estimate_23 : decode cX5_estimate 23 = .ok (.ifCond .ne 6, 3) := by decide +kernel
theorem dX5_estimate_26 : decode cX5_estimate 26 = .ok (.bipush (-2), 2) := by decide +kernel
theorem dX5_estimate_28 : decode cX5_estimate 28 = .ok (.ireturn, 1) := by decide +kernel
theorem dX5_estimate_29 : decode cX5_estimate 29 = .ok (.aload_n 0, 1) := by decide +kernel
theorem dX5_estimate_30 : decode cX5_estimate 30 = .ok (.iload_n 1, 1) := by decide +kernel
theorem dX5_estimate_31 : decode cX5_estimate 31 = .ok (.invokevirtual 93, 3) := by decide +kernel
theorem dX5_estimate_34 : decode cX5_estimate 34 = .ok (.istore 4, 2) := by decide +kernel
theorem dX5_estimate_36 : decode cX5_estimate 36 = .ok (.iload 4, 2) := by decide +kernel
theorem dX5_estimate_38 : decode cX5_estimate 38 = .ok (.iload_n 2, 1) := by decide +kernel
theorem dX5_estimate_39 : decode cX5_estimate 39 = .ok (.invokestatic 153, 3) := by decide +kernel
theorem dX5_estimate_42 : decode cX5_estimate 42 = .ok (.ifCond .ne 6, 3) := by decide +kernel
theorem dX5_estimate_45 : decode cX5_estimate 45 = .ok (.bipush (-3), 2) := by decide +kernel
theorem dX5_estimate_47 : decode cX5_estimate 47 = .ok (.ireturn, 1) := by decide +kernel
theorem dX5_estimate_48 : decode cX5_estimate 48 = .ok (.aload_n 0, 1) := by decide +kernel
theorem dX5_estimate_49 : decode cX5_estimate 49 = .ok (.iload 4, 2) := by decide +kernel
theorem dX5_estimate_51 : decode cX5_estimate 51 = .ok (.iload_n 2, 1) := by decide +kernel
theorem dX5_estimate_52 : decode cX5_estimate 52 = .ok (.invokevirtual 156, 3) := by decide +kernel
theorem dX5_estimate_55 : decode cX5_estimate 55 = .ok (.aload_n 0, 1) := by decide +kernel
theorem dX5_estimate_56 : decode cX5_estimate 56 = .ok (.iload 4, 2) := by decide +kernel
theorem dX5_estimate_58 : decode cX5_estimate 58 = .ok (.iconst 1, 1) := by decide +kernel
theorem dX5_estimate_59 : decode cX5_estimate 59 = .ok (.iload_n 2, 1) := by decide +kernel
theorem dX5_estimate_60 : decode cX5_estimate 60 = .ok (.ishl, 1) := by decide +kernel
theorem dX5_estimate_61 : decode cX5_estimate 61 = .ok (.ior, 1) := by decide +kernel
theorem dX5_estimate_62 : decode cX5_estimate 62 = .ok (.iload_n 2, 1) := by decide +kernel
theorem dX5_estimate_63 : decode cX5_estimate 63 = .ok (.invokevirtual 125, 3) := by decide +kernel
theorem dX5_estimate_66 : decode cX5_estimate 66 = .ok (.istore 5, 2) := by decide +kernel
theorem dX5_estimate_68 : decode cX5_estimate 68 = .ok (.iload 5, 2) := by decide +kernel
theorem dX5_estimate_70 : decode cX5_estimate 70 = .ok (.ifCond .ne 8, 3) := by decide +kernel
theorem dX5_estimate_73 : decode cX5_estimate 73 = .ok (.bipush (-6), 2) := by decide +kernel
theorem dX5_estimate_75 : decode cX5_estimate 75 = .ok (.goto 15, 3) := by decide +kernel
theorem dX5_estimate_78 : decode cX5_estimate 78 = .ok (.aload_n 0, 1) := by decide +kernel
theorem dX5_estimate_79 : decode cX5_estimate 79 = .ok (.iload_n 1, 1) := by decide +kernel
theorem dX5_estimate_80 : decode cX5_estimate 80 = .ok (.iload_n 2, 1) := by decide +kernel
theorem dX5_estimate_81 : decode cX5_estimate 81 = .ok (.invokevirtual 163, 3) := by decide +kernel
theorem dX5_estimate_84 : decode cX5_estimate 84 = .ok (.iload 5, 2) := by decide +kernel
theorem dX5_estimate_86 : decode cX5_estimate 86 = .ok (.iload_n 3, 1) := by decide +kernel
theorem dX5_estimate_87 : decode cX5_estimate 87 = .ok (.invokestatic 131, 3) := by decide +kernel
theorem dX5_estimate_90 : decode cX5_estimate 90 = .ok (.ireturn, 1) := by decide +kernel
set_option maxRecDepth 20000 in
theorem ggX5_doubt_X5_isDay : GoodIn wsX5_doubt wsX5_isDay := goodIn_r _ [6, 7, 8, 5, 9] (by decide +kernel) (by decide +kernel)
set_option maxRecDepth 20000 in
theorem gX5_doubt_X5_isDay : GoodIn wsX5_doubt (va_wsS RX5 84 yX5_isDay wsX5_isDay) := goodIn_app (goodIn_of _ (by decide +kernel)) ggX5_doubt_X5_isDay
set_option maxRecDepth 20000 in
theorem ggX5_doubt_X5_in : GoodIn wsX5_doubt wsX5_in := goodIn_r _ [9] (by decide +kernel) (by decide +kernel)
set_option maxRecDepth 20000 in
theorem gX5_doubt_X5_in : GoodIn wsX5_doubt (va_wsS RX5 57 yX5_in wsX5_in) := goodIn_app (goodIn_of _ (by decide +kernel)) ggX5_doubt_X5_in
set_option maxRecDepth 20000 in
theorem ggX5_doubt_X5_workingOn : GoodIn wsX5_doubt wsX5_workingOn := goodIn_r _ [13, 1, 14, 2, 66, 67, 68, 69, 70, 71, 72, 73, 74, 75, 76, 77, 78, 79, 80, 81, 82, 83, 84] (by decide +kernel) (by decide +kernel)
set_option maxRecDepth 20000 in
theorem gX5_doubt_X5_workingOn : GoodIn wsX5_doubt (wsV RX5 93 RX5 yX5_workingOn wsX5_workingOn) := goodIn_app (goodIn_of _ (by decide +kernel)) ggX5_doubt_X5_workingOn
set_option maxRecDepth 20000 in
theorem ggX5_doubt_X5_has : GoodIn wsX5_doubt wsX5_has := goodIn_r _ [17] (by decide +kernel) (by decide +kernel)
set_option maxRecDepth 20000 in
theorem gX5_doubt_X5_has : GoodIn wsX5_doubt (va_wsS RX5 100 yX5_has wsX5_has) := goodIn_app (goodIn_of _ (by decide +kernel)) ggX5_doubt_X5_has
set_option maxRecDepth 20000 in
theorem ggX5_doubt_X5_without : GoodIn wsX5_doubt wsX5_without := goodIn_r _ [20] (by decide +kernel) (by decide +kernel)
set_option maxRecDepth 20000 in
theorem gX5_doubt_X5_without : GoodIn wsX5_doubt (va_wsS RX5 153 yX5_without wsX5_without) := goodIn_app (goodIn_of _ (by decide +kernel)) ggX5_doubt_X5_without
set_option maxRecDepth 20000 in
theorem ggX5_doubt_X5_lookUpBoth : GoodIn wsX5_doubt wsX5_lookUpBoth := goodIn_r _ [24, 25, 26, 27, 5, 28, 29, 30, 31, 32, 33, 18, 19, 20, 66, 67, 68, 69, 70, 71, 72, 73, 74, 75, 76, 77, 78, 79, 80, 81, 82, 83, 84] (by decide +kernel) (by decide +kernel)
set_option maxRecDepth 20000 in
theorem gX5_doubt_X5_lookUpBoth : GoodIn wsX5_doubt (wsV RX5 156 RX5 yX5_lookUpBoth wsX5_lookUpBoth) := goodIn_app (goodIn_of _ (by decide +kernel)) ggX5_doubt_X5_lookUpBoth
set_option maxRecDepth 20000 in
theorem ggX5_doubt_X5_size : GoodIn wsX5_doubt wsX5_size := goodIn_r _ [37, 38, 39, 40, 5, 41, 42, 43, 7, 8, 9, 44, 45, 46, 47, 1, 48, 49, 50, 51, 52, 53, 54, 55, 56, 57, 15, 16, 17, 66, 67, 68, 69, 70, 71, 72, 73, 74, 75, 76, 77, 78, 79, 80, 81, 82, 83, 84] (by decide +kernel) (by decide +kernel)
set_option maxRecDepth 20000 in
theorem gX5_doubt_X5_size : GoodIn wsX5_doubt (wsV RX5 125 RX5 yX5_size wsX5_size) := goodIn_app (goodIn_of _ (by decide +kernel)) ggX5_doubt_X5_size
set_option maxRecDepth 20000 in
theorem ggX5_doubt_X5_sharedWater : GoodIn wsX5_doubt wsX5_sharedWater := goodIn_r _ [61, 1, 2, 10, 11, 12, 5, 13, 14, 15, 16, 17, 62, 63, 64, 65, 38, 39, 40, 41, 42, 43, 7, 8, 9, 44, 45, 46, 47, 48, 49, 50, 51, 52, 53, 54, 55, 56, 57, 66, 67, 68, 69, 70, 71, 72, 73, 74, 75, 76, 77, 78, 79, 80, 81, 82, 83, 84] (by decide +kernel) (by decide +kernel)
set_option maxRecDepth 20000 in
theorem gX5_doubt_X5_sharedWater : GoodIn wsX5_doubt (wsV RX5 163 RX5 yX5_sharedWater wsX5_sharedWater) := goodIn_app (goodIn_of _ (by decide +kernel)) ggX5_doubt_X5_sharedWater
theorem dX5_doubt_0 : decode cX5_doubt 0 = .ok (.iload_n 1, 1) := by decide +kernel
theorem dX5_doubt_1 : decode cX5_doubt 1 = .ok (.invokestatic 84, 3) := by decide +kernel
theorem dX5_doubt_4 : decode cX5_doubt 4 = .ok (.ifCond .eq 14, 3) := by decide +kernel
theorem dX5_doubt_7 : decode cX5_doubt 7 = .ok (.iload_n 2, 1) := by decide +kernel
theorem dX5_doubt_8 : decode cX5_doubt 8 = .ok (.iconst 0, 1) := by decide +kernel
theorem dX5_doubt_9 : decode cX5_doubt 9 = .ok (.sipush 9999, 3) := by decide +kernel
theorem dX5_doubt_12 : decode cX5_doubt 12 = .ok (.invokestatic 57, 3) := by decide +kernel
theorem dX5_doubt_15 : decode cX5_doubt 15 = .ok (.ifCond .ne 6, 3) := by decide +kernel
theorem dX5_doubt_18 : decode cX5_doubt 18 = .ok (.bipush (-2), 2) := by decide +kernel
theorem dX5_doubt_20 : decode cX5_doubt 20 = .ok (.ireturn, 1) := by decide +kernel
theorem dX5_doubt_21 : decode cX5_doubt 21 = .ok (.aload_n 0, 1) := by decide +kernel
theorem dX5_doubt_22 : decode cX5_doubt 22 = .ok (.iload_n 1, 1) := by decide +kernel
theorem dX5_doubt_23 : decode cX5_doubt 23 = .ok (.invokevirtual 93, 3) := by decide +kernel
theorem dX5_doubt_26 : decode cX5_doubt 26 = .ok (.istore_n 3, 1) := by decide +kernel
theorem dX5_doubt_27 : decode cX5_doubt 27 = .ok (.iconst 0, 1) := by decide +kernel
theorem dX5_doubt_28 : decode cX5_doubt 28 = .ok (.istore 4, 2) := by decide +kernel
theorem dX5_doubt_30 : decode cX5_doubt 30 = .ok (.iconst 0, 1) := by decide +kernel
theorem dX5_doubt_31 : decode cX5_doubt 31 = .ok (.istore 5, 2) := by decide +kernel
theorem dX5_doubt_33 : decode cX5_doubt 33 = .ok (.iload 5, 2) := by decide +kernel
theorem dX5_doubt_35 : decode cX5_doubt 35 = .ok (.aload_n 0, 1) := by decide +kernel
theorem dX5_doubt_36 : decode cX5_doubt 36 = .ok (.getfield 53, 3) := by decide +kernel
theorem dX5_doubt_39 : decode cX5_doubt 39 = .ok (.if_icmp .ge 100, 3) := by decide +kernel
theorem dX5_doubt_42 : decode cX5_doubt 42 = .ok (.iload_n 3, 1) := by decide +kernel
theorem dX5_doubt_43 : decode cX5_doubt 43 = .ok (.iload 5, 2) := by decide +kernel
theorem dX5_doubt_45 : decode cX5_doubt 45 = .ok (.invokestatic 100, 3) := by decide +kernel
theorem dX5_doubt_48 : decode cX5_doubt 48 = .ok (.ifCond .eq 85, 3) := by decide +kernel
theorem dX5_doubt_51 : decode cX5_doubt 51 = .ok (.iload_n 3, 1) := by decide +kernel
theorem dX5_doubt_52 : decode cX5_doubt 52 = .ok (.iload 5, 2) := by decide +kernel
theorem dX5_doubt_54 : decode cX5_doubt 54 = .ok (.invokestatic 153, 3) := by decide +kernel
theorem dX5_doubt_57 : decode cX5_doubt 57 = .ok (.ifCond .eq 76, 3) := by decide +kernel
theorem dX5_doubt_60 : decode cX5_doubt 60 = .ok (.aload_n 0, 1) := by decide +kernel
theorem dX5_doubt_61 : decode cX5_doubt 61 = .ok (.iload_n 3, 1) := by decide +kernel
theorem dX5_doubt_62 : decode cX5_doubt 62 = .ok (.iload 5, 2) := by decide +kernel
theorem dX5_doubt_64 : decode cX5_doubt 64 = .ok (.invokevirtual 156, 3) := by decide +kernel
theorem dX5_doubt_67 : decode cX5_doubt 67 = .ok (.aload_n 0, 1) := by decide +kernel
theorem dX5_doubt_68 : decode cX5_doubt 68 = .ok (.iload_n 3, 1) := by decide +kernel
theorem dX5_doubt_69 : decode cX5_doubt 69 = .ok (.iload 5, 2) := by decide +kernel
theorem dX5_doubt_71 : decode cX5_doubt 71 = .ok (.invokevirtual 125, 3) := by decide +kernel
theorem dX5_doubt_74 : decode cX5_doubt 74 = .ok (.istore 6, 2) := by decide +kernel
theorem dX5_doubt_76 : decode cX5_doubt 76 = .ok (.aload_n 0, 1) := by decide +kernel
theorem dX5_doubt_77 : decode cX5_doubt 77 = .ok (.getfield 29, 3) := by decide +kernel
theorem dX5_doubt_80 : decode cX5_doubt 80 = .ok (.bipush 64, 2) := by decide +kernel
theorem dX5_doubt_82 : decode cX5_doubt 82 = .ok (.iload 5, 2) := by decide +kernel
theorem dX5_doubt_84 : decode cX5_doubt 84 = .ok (.imul, 1) := by decide +kernel
theorem dX5_doubt_85 : decode cX5_doubt 85 = .ok (.iload_n 1, 1) := by decide +kernel
theorem dX5_doubt_86 : decode cX5_doubt 86 = .ok (.iadd, 1) := by decide +kernel
theorem dX5_doubt_87 : decode cX5_doubt 87 = .ok (.iaload, 1) := by decide +kernel
theorem dX5_doubt_88 : decode cX5_doubt 88 = .ok (.iload 6, 2) := by decide +kernel
theorem dX5_doubt_90 : decode cX5_doubt 90 = .ok (.imul, 1) := by decide +kernel
theorem dX5_doubt_91 : decode cX5_doubt 91 = .ok (.aload_n 0, 1) := by decide +kernel
theorem dX5_doubt_92 : decode cX5_doubt 92 = .ok (.iload_n 1, 1) := by decide +kernel
theorem dX5_doubt_93 : decode cX5_doubt 93 = .ok (.iload 5, 2) := by decide +kernel
theorem dX5_doubt_95 : decode cX5_doubt 95 = .ok (.invokevirtual 163, 3) := by decide +kernel
theorem dX5_doubt_98 : decode cX5_doubt 98 = .ok (.isub, 1) := by decide +kernel
theorem dX5_doubt_99 : decode cX5_doubt 99 = .ok (.istore 7, 2) := by decide +kernel
theorem dX5_doubt_101 : decode cX5_doubt 101 = .ok (.iload 4, 2) := by decide +kernel
theorem dX5_doubt_103 : decode cX5_doubt 103 = .ok (.iload 7, 2) := by decide +kernel
theorem dX5_doubt_105 : decode cX5_doubt 105 = .ok (.iload_n 2, 1) := by decide +kernel
theorem dX5_doubt_106 : decode cX5_doubt 106 = .ok (.iload 6, 2) := by decide +kernel
theorem dX5_doubt_108 : decode cX5_doubt 108 = .ok (.imul, 1) := by decide +kernel
theorem dX5_doubt_109 : decode cX5_doubt 109 = .ok (.if_icmp .gt 13, 3) := by decide +kernel
theorem dX5_doubt_112 : decode cX5_doubt 112 = .ok (.iload 7, 2) := by decide +kernel
theorem dX5_doubt_114 : decode cX5_doubt 114 = .ok (.ineg, 1) := by decide +kernel
theorem dX5_doubt_115 : decode cX5_doubt 115 = .ok (.iload_n 2, 1) := by decide +kernel
theorem dX5_doubt_116 : decode cX5_doubt 116 = .ok (.iload 6, 2) := by decide +kernel
theorem dX5_doubt_118 : decode cX5_doubt 118 = .ok (.imul, 1) := by decide +kernel
theorem dX5_doubt_119 : decode cX5_doubt 119 = .ok (.if_icmp .le 10, 3) := by decide +kernel
theorem dX5_doubt_122 : decode cX5_doubt 122 = .ok (.iconst 1, 1) := by decide +kernel
theorem dX5_doubt_123 : decode cX5_doubt 123 = .ok (.iload 5, 2) := by decide +kernel
theorem dX5_doubt_125 : decode cX5_doubt 125 = .ok (.ishl, 1) := by decide +kernel
theorem dX5_doubt_126 : decode cX5_doubt 126 = .ok (.goto 4, 3) := by decide +kernel
theorem dX5_doubt_129 : decode cX5_doubt 129 = .ok (.iconst 0, 1) := by decide +kernel
theorem dX5_doubt_130 : decode cX5_doubt 130 = .ok (.ior, 1) := by decide +kernel
theorem dX5_doubt_131 : decode cX5_doubt 131 = .ok (.istore 4, 2) := by decide +kernel
theorem dX5_doubt_133 : decode cX5_doubt 133 = .ok (.iinc 5 1, 3) := by decide +kernel
theorem dX5_doubt_136 : decode cX5_doubt 136 = .ok (.goto (-103), 3) := by decide +kernel
theorem dX5_doubt_139 : decode cX5_doubt 139 = .ok (.iload 4, 2) := by decide +kernel
theorem dX5_doubt_141 : decode cX5_doubt 141 = .ok (.ireturn, 1) := by decide +kernel
set_option maxRecDepth 20000 in
theorem ggX5_kept_X5_in : GoodIn wsX5_kept wsX5_in := goodIn_r _ [6] (by decide +kernel) (by decide +kernel)
set_option maxRecDepth 20000 in
theorem gX5_kept_X5_in : GoodIn wsX5_kept (va_wsS RX5 57 yX5_in wsX5_in) := goodIn_app (goodIn_of _ (by decide +kernel)) ggX5_kept_X5_in
theorem dX5_kept_0 : decode cX5_kept 0 = .ok (.iload_n 1, 1) := by decide +kernel
theorem dX5_kept_1 : decode cX5_kept 1 = .ok (.iconst 0, 1) := by decide +kernel
theorem dX5_kept_2 : decode cX5_kept 2 = .ok (.aload_n 0, 1) := by decide +kernel
theorem dX5_kept_3 : decode cX5_kept 3 = .ok (.getfield 61, 3) := by decide +kernel
theorem dX5_kept_6 : decode cX5_kept 6 = .ok (.iconst 1, 1) := by decide +kernel
theorem dX5_kept_7 : decode cX5_kept 7 = .ok (.isub, 1) := by decide +kernel
theorem dX5_kept_8 : decode cX5_kept 8 = .ok (.invokestatic 57, 3) := by decide +kernel
theorem dX5_kept_11 : decode cX5_kept 11 = .ok (.ifCond .eq 12, 3) := by decide +kernel
theorem dX5_kept_14 : decode cX5_kept 14 = .ok (.aload_n 0, 1) := by decide +kernel
theorem dX5_kept_15 : decode cX5_kept 15 = .ok (.getfield 32, 3) := by decide +kernel
theorem dX5_kept_18 : decode cX5_kept 18 = .ok (.iload_n 1, 1) := by decide +kernel
theorem dX5_kept_19 : decode cX5_kept 19 = .ok (.iaload, 1) := by decide +kernel
theorem dX5_kept_20 : decode cX5_kept 20 = .ok (.goto 5, 3) := by decide +kernel
theorem dX5_kept_23 : decode cX5_kept 23 = .ok (.bipush (-6), 2) := by decide +kernel
theorem dX5_kept_25 : decode cX5_kept 25 = .ok (.ireturn, 1) := by decide +kernel
set_option maxRecDepth 20000 in
theorem ggX5_image_X5_in : GoodIn wsX5_image wsX5_in := goodIn_r _ [18] (by decide +kernel) (by decide +kernel)
set_option maxRecDepth 20000 in
theorem gX5_image_X5_in : GoodIn wsX5_image (va_wsS RX5 57 yX5_in wsX5_in) := goodIn_app (goodIn_of _ (by decide +kernel)) ggX5_image_X5_in
theorem dX5_image_0 : decode cX5_image 0 = .ok (.iload_n 1, 1) := by decide +kernel
theorem dX5_image_1 : decode cX5_image 1 = .ok (.iconst 0, 1) := by decide +kernel
theorem dX5_image_2 : decode cX5_image 2 = .ok (.iconst 1, 1) := by decide +kernel
theorem dX5_image_3 : decode cX5_image 3 = .ok (.invokestatic 57, 3) := by decide +kernel
theorem dX5_image_6 : decode cX5_image 6 = .ok (.ifCond .ne 6, 3) := by decide +kernel
theorem dX5_image_9 : decode cX5_image 9 = .ok (.bipush (-2), 2) := by decide +kernel
theorem dX5_image_11 : decode cX5_image 11 = .ok (.ireturn, 1) := by decide +kernel
theorem dX5_image_12 : decode cX5_image 12 = .ok (.iconst 0, 1) := by decide +kernel
theorem dX5_image_13 : decode cX5_image 13 = .ok (.istore_n 2, 1) := by decide +kernel
theorem dX5_image_14 : decode cX5_image 14 = .ok (.iload_n 2, 1) := by decide +kernel
theorem dX5_image_15 : decode cX5_image 15 = .ok (.bipush 16, 2) := by decide +kernel
theorem dX5_image_17 : decode cX5_image 17 = .ok (.if_icmp .ge 46, 3) := by decide +kernel
theorem dX5_image_20 : decode cX5_image 20 = .ok (.aload_n 0, 1) := by decide +kernel
theorem dX5_image_21 : decode cX5_image 21 = .ok (.getfield 38, 3) := by decide +kernel
theorem dX5_image_24 : decode cX5_image 24 = .ok (.bipush 32, 2) := by decide +kernel
theorem dX5_image_26 : decode cX5_image 26 = .ok (.iload_n 1, 1) := by decide +kernel
theorem dX5_image_27 : decode cX5_image 27 = .ok (.imul, 1) := by decide +kernel
theorem dX5_image_28 : decode cX5_image 28 = .ok (.iload_n 2, 1) := by decide +kernel
theorem dX5_image_29 : decode cX5_image 29 = .ok (.iadd, 1) := by decide +kernel
theorem dX5_image_30 : decode cX5_image 30 = .ok (.aload_n 0, 1) := by decide +kernel
theorem dX5_image_31 : decode cX5_image 31 = .ok (.getfield 7, 3) := by decide +kernel
theorem dX5_image_34 : decode cX5_image 34 = .ok (.iload_n 2, 1) := by decide +kernel
theorem dX5_image_35 : decode cX5_image 35 = .ok (.iaload, 1) := by decide +kernel
theorem dX5_image_36 : decode cX5_image 36 = .ok (.iastore, 1) := by decide +kernel
theorem dX5_image_37 : decode cX5_image 37 = .ok (.aload_n 0, 1) := by decide +kernel
theorem dX5_image_38 : decode cX5_image 38 = .ok (.getfield 38, 3) := by decide +kernel
theorem dX5_image_41 : decode cX5_image 41 = .ok (.bipush 32, 2) := by decide +kernel
theorem dX5_image_43 : decode cX5_image 43 = .ok (.iload_n 1, 1) := by decide +kernel
theorem dX5_image_44 : decode cX5_image 44 = .ok (.imul, 1) := by decide +kernel
theorem dX5_image_45 : decode cX5_image 45 = .ok (.bipush 16, 2) := by decide +kernel
theorem dX5_image_47 : decode cX5_image 47 = .ok (.iadd, 1) := by decide +kernel
theorem dX5_image_48 : decode cX5_image 48 = .ok (.iload_n 2, 1) := by decide +kernel
theorem dX5_image_49 : decode cX5_image 49 = .ok (.iadd, 1) := by decide +kernel
theorem dX5_image_50 : decode cX5_image 50 = .ok (.aload_n 0, 1) := by decide +kernel
theorem dX5_image_51 : decode cX5_image 51 = .ok (.getfield 13, 3) := by decide +kernel
theorem dX5_image_54 : decode cX5_image 54 = .ok (.iload_n 2, 1) := by decide +kernel
theorem dX5_image_55 : decode cX5_image 55 = .ok (.iaload, 1) := by decide +kernel
theorem dX5_image_56 : decode cX5_image 56 = .ok (.iastore, 1) := by decide +kernel
theorem dX5_image_57 : decode cX5_image 57 = .ok (.iinc 2 1, 3) := by decide +kernel
theorem dX5_image_60 : decode cX5_image 60 = .ok (.goto (-46), 3) := by decide +kernel
theorem dX5_image_63 : decode cX5_image 63 = .ok (.iconst 0, 1) := by decide +kernel
theorem dX5_image_64 : decode cX5_image 64 = .ok (.istore_n 2, 1) := by decide +kernel
theorem dX5_image_65 : decode cX5_image 65 = .ok (.iload_n 2, 1) := by decide +kernel
theorem dX5_image_66 : decode cX5_image 66 = .ok (.bipush 8, 2) := by decide +kernel
theorem dX5_image_68 : decode cX5_image 68 = .ok (.if_icmp .ge 70, 3) := by decide +kernel
theorem dX5_image_71 : decode cX5_image 71 = .ok (.aload_n 0, 1) := by decide +kernel
theorem dX5_image_72 : decode cX5_image 72 = .ok (.getfield 44, 3) := by decide +kernel
theorem dX5_image_75 : decode cX5_image 75 = .ok (.bipush 24, 2) := by decide +kernel
theorem dX5_image_77 : decode cX5_image 77 = .ok (.iload_n 1, 1) := by decide +kernel
theorem dX5_image_78 : decode cX5_image 78 = .ok (.imul, 1) := by decide +kernel
theorem dX5_image_79 : decode cX5_image 79 = .ok (.iconst 3, 1) := by decide +kernel
theorem dX5_image_80 : decode cX5_image 80 = .ok (.iload_n 2, 1) := by decide +kernel
theorem dX5_image_81 : decode cX5_image 81 = .ok (.imul, 1) := by decide +kernel
theorem dX5_image_82 : decode cX5_image 82 = .ok (.iadd, 1) := by decide +kernel
theorem dX5_image_83 : decode cX5_image 83 = .ok (.aload_n 0, 1) := by decide +kernel
theorem dX5_image_84 : decode cX5_image 84 = .ok (.getfield 16, 3) := by decide +kernel
theorem dX5_image_87 : decode cX5_image 87 = .ok (.iload_n 2, 1) := by decide +kernel
theorem dX5_image_88 : decode cX5_image 88 = .ok (.iaload, 1) := by decide +kernel
theorem dX5_image_89 : decode cX5_image 89 = .ok (.iastore, 1) := by decide +kernel
theorem dX5_image_90 : decode cX5_image 90 = .ok (.aload_n 0, 1) := by decide +kernel
theorem dX5_image_91 : decode cX5_image 91 = .ok (.getfield 44, 3) := by decide +kernel
theorem dX5_image_94 : decode cX5_image 94 = .ok (.bipush 24, 2) := by decide +kernel
theorem dX5_image_96 : decode cX5_image 96 = .ok (.iload_n 1, 1) := by decide +kernel
theorem dX5_image_97 : decode cX5_image 97 = .ok (.imul, 1) := by decide +kernel
theorem dX5_image_98 : decode cX5_image 98 = .ok (.iconst 3, 1) := by decide +kernel
theorem dX5_image_99 : decode cX5_image 99 = .ok (.iload_n 2, 1) := by decide +kernel
theorem dX5_image_100 : decode cX5_image 100 = .ok (.imul, 1) := by decide +kernel
theorem dX5_image_101 : decode cX5_image 101 = .ok (.iadd, 1) := by decide +kernel
theorem dX5_image_102 : decode cX5_image 102 = .ok (.iconst 1, 1) := by decide +kernel
theorem dX5_image_103 : decode cX5_image 103 = .ok (.iadd, 1) := by decide +kernel
theorem dX5_image_104 : decode cX5_image 104 = .ok (.aload_n 0, 1) := by decide +kernel
theorem dX5_image_105 : decode cX5_image 105 = .ok (.getfield 19, 3) := by decide +kernel
theorem dX5_image_108 : decode cX5_image 108 = .ok (.iload_n 2, 1) := by decide +kernel
theorem dX5_image_109 : decode cX5_image 109 = .ok (.iaload, 1) := by decide +kernel
theorem dX5_image_110 : decode cX5_image 110 = .ok (.iastore, 1) := by decide +kernel
theorem dX5_image_111 : decode cX5_image 111 = .ok (.aload_n 0, 1) := by decide +kernel
theorem dX5_image_112 : decode cX5_image 112 = .ok (.getfield 44, 3) := by decide +kernel
theorem dX5_image_115 : decode cX5_image 115 = .ok (.bipush 24, 2) := by decide +kernel
theorem dX5_image_117 : decode cX5_image 117 = .ok (.iload_n 1, 1) := by decide +kernel
theorem dX5_image_118 : decode cX5_image 118 = .ok (.imul, 1) := by decide +kernel
theorem dX5_image_119 : decode cX5_image 119 = .ok (.iconst 3, 1) := by decide +kernel
theorem dX5_image_120 : decode cX5_image 120 = .ok (.iload_n 2, 1) := by decide +kernel
theorem dX5_image_121 : decode cX5_image 121 = .ok (.imul, 1) := by decide +kernel
theorem dX5_image_122 : decode cX5_image 122 = .ok (.iadd, 1) := by decide +kernel
theorem dX5_image_123 : decode cX5_image 123 = .ok (.iconst 2, 1) := by decide +kernel
theorem dX5_image_124 : decode cX5_image 124 = .ok (.iadd, 1) := by decide +kernel
theorem dX5_image_125 : decode cX5_image 125 = .ok (.aload_n 0, 1) := by decide +kernel
theorem dX5_image_126 : decode cX5_image 126 = .ok (.getfield 22, 3) := by decide +kernel
theorem dX5_image_129 : decode cX5_image 129 = .ok (.iload_n 2, 1) := by decide +kernel
theorem dX5_image_130 : decode cX5_image 130 = .ok (.iaload, 1) := by decide +kernel
theorem dX5_image_131 : decode cX5_image 131 = .ok (.iastore, 1) := by decide +kernel
theorem dX5_image_132 : decode cX5_image 132 = .ok (.iinc 2 1, 3) := by decide +kernel
theorem dX5_image_135 : decode cX5_image 135 = .ok (.goto (-70), 3) := by decide +kernel
theorem dX5_image_138 : decode cX5_image 138 = .ok (.iconst 0, 1) := by decide +kernel
theorem dX5_image_139 : decode cX5_image 139 = .ok (.istore_n 2, 1) := by decide +kernel
theorem dX5_image_140 : decode cX5_image 140 = .ok (.iload_n 2, 1) := by decide +kernel
theorem dX5_image_141 : decode cX5_image 141 = .ok (.sipush 512, 3) := by decide +kernel
theorem dX5_image_144 : decode cX5_image 144 = .ok (.if_icmp .ge 45, 3) := by decide +kernel
theorem dX5_image_147 : decode cX5_image 147 = .ok (.aload_n 0, 1) := by decide +kernel
theorem dX5_image_148 : decode cX5_image 148 = .ok (.getfield 47, 3) := by decide +kernel
theorem dX5_image_151 : decode cX5_image 151 = .ok (.sipush 512, 3) := by decide +kernel
theorem dX5_image_154 : decode cX5_image 154 = .ok (.iload_n 1, 1) := by decide +kernel
theorem dX5_image_155 : decode cX5_image 155 = .ok (.imul, 1) := by decide +kernel
theorem dX5_image_156 : decode cX5_image 156 = .ok (.iload_n 2, 1) := by decide +kernel
theorem dX5_image_157 : decode cX5_image 157 = .ok (.iadd, 1) := by decide +kernel
theorem dX5_image_158 : decode cX5_image 158 = .ok (.aload_n 0, 1) := by decide +kernel
theorem dX5_image_159 : decode cX5_image 159 = .ok (.getfield 25, 3) := by decide +kernel
theorem dX5_image_162 : decode cX5_image 162 = .ok (.iload_n 2, 1) := by decide +kernel
theorem dX5_image_163 : decode cX5_image 163 = .ok (.baload, 1) := by decide +kernel
theorem dX5_image_164 : decode cX5_image 164 = .ok (.bastore, 1) := by decide +kernel
theorem dX5_image_165 : decode cX5_image 165 = .ok (.aload_n 0, 1) := by decide +kernel
theorem dX5_image_166 : decode cX5_image 166 = .ok (.getfield 50, 3) := by decide +kernel
theorem dX5_image_169 : decode cX5_image 169 = .ok (.sipush 512, 3) := by decide +kernel
theorem dX5_image_172 : decode cX5_image 172 = .ok (.iload_n 1, 1) := by decide +kernel
theorem dX5_image_173 : decode cX5_image 173 = .ok (.imul, 1) := by decide +kernel
theorem dX5_image_174 : decode cX5_image 174 = .ok (.iload_n 2, 1) := by decide +kernel
theorem dX5_image_175 : decode cX5_image 175 = .ok (.iadd, 1) := by decide +kernel
theorem dX5_image_176 : decode cX5_image 176 = .ok (.aload_n 0, 1) := by decide +kernel
theorem dX5_image_177 : decode cX5_image 177 = .ok (.getfield 29, 3) := by decide +kernel
theorem dX5_image_180 : decode cX5_image 180 = .ok (.iload_n 2, 1) := by decide +kernel
theorem dX5_image_181 : decode cX5_image 181 = .ok (.iaload, 1) := by decide +kernel
theorem dX5_image_182 : decode cX5_image 182 = .ok (.iastore, 1) := by decide +kernel
theorem dX5_image_183 : decode cX5_image 183 = .ok (.iinc 2 1, 3) := by decide +kernel
theorem dX5_image_186 : decode cX5_image 186 = .ok (.goto (-46), 3) := by decide +kernel
theorem dX5_image_189 : decode cX5_image 189 = .ok (.aload_n 0, 1) := by decide +kernel
theorem dX5_image_190 : decode cX5_image 190 = .ok (.getfield 41, 3) := by decide +kernel
theorem dX5_image_193 : decode cX5_image 193 = .ok (.iload_n 1, 1) := by decide +kernel
theorem dX5_image_194 : decode cX5_image 194 = .ok (.aload_n 0, 1) := by decide +kernel
theorem dX5_image_195 : decode cX5_image 195 = .ok (.getfield 53, 3) := by decide +kernel
theorem dX5_image_198 : decode cX5_image 198 = .ok (.iastore, 1) := by decide +kernel
theorem dX5_image_199 : decode cX5_image 199 = .ok (.aload_n 0, 1) := by decide +kernel
theorem dX5_image_200 : decode cX5_image 200 = .ok (.getfield 35, 3) := by decide +kernel
theorem dX5_image_203 : decode cX5_image 203 = .ok (.iload_n 1, 1) := by decide +kernel
theorem dX5_image_204 : decode cX5_image 204 = .ok (.iconst 1, 1) := by decide +kernel
theorem dX5_image_205 : decode cX5_image 205 = .ok (.bastore, 1) := by decide +kernel
theorem dX5_image_206 : decode cX5_image 206 = .ok (.iconst 1, 1) := by decide +kernel
theorem dX5_image_207 : decode cX5_image 207 = .ok (.ireturn, 1) := by decide +kernel
set_option maxRecDepth 20000 in
theorem ggX5_restore_X5_in : GoodIn wsX5_restore wsX5_in := goodIn_r _ [19] (by decide +kernel) (by decide +kernel)
set_option maxRecDepth 20000 in
theorem gX5_restore_X5_in : GoodIn wsX5_restore (va_wsS RX5 57 yX5_in wsX5_in) := goodIn_app (goodIn_of _ (by decide +kernel)) ggX5_restore_X5_in
theorem dX5_restore_0 : decode cX5_restore 0 = .ok (.iload_n 1, 1) := by decide +kernel
theorem dX5_restore_1 : decode cX5_restore 1 = .ok (.iconst 0, 1) := by decide +kernel
theorem dX5_restore_2 : decode cX5_restore 2 = .ok (.iconst 1, 1) := by decide +kernel
theorem dX5_restore_3 : decode cX5_restore 3 = .ok (.invokestatic 57, 3) := by decide +kernel
theorem dX5_restore_6 : decode cX5_restore 6 = .ok (.ifCond .ne 6, 3) := by decide +kernel
theorem dX5_restore_9 : decode cX5_restore 9 = .ok (.bipush (-2), 2) := by decide +kernel
theorem dX5_restore_11 : decode cX5_restore 11 = .ok (.ireturn, 1) := by decide +kernel
theorem dX5_restore_12 : decode cX5_restore 12 = .ok (.aload_n 0, 1) := by decide +kernel
theorem dX5_restore_13 : decode cX5_restore 13 = .ok (.getfield 35, 3) := by decide +kernel
theorem dX5_restore_16 : decode cX5_restore 16 = .ok (.iload_n 1, 1) := by decide +kernel
theorem dX5_restore_17 : decode cX5_restore 17 = .ok (.baload, 1) := by decide +kernel
theorem dX5_restore_18 : decode cX5_restore 18 = .ok (.ifCond .ne 6, 3) := by decide +kernel
theorem dX5_restore_21 : decode cX5_restore 21 = .ok (.bipush (-3), 2) := by decide +kernel
theorem dX5_restore_23 : decode cX5_restore 23 = .ok (.ireturn, 1) := by decide +kernel
theorem dX5_restore_24 : decode cX5_restore 24 = .ok (.iconst 0, 1) := by decide +kernel
theorem dX5_restore_25 : decode cX5_restore 25 = .ok (.istore_n 2, 1) := by decide +kernel
theorem dX5_restore_26 : decode cX5_restore 26 = .ok (.iload_n 2, 1) := by decide +kernel
theorem dX5_restore_27 : decode cX5_restore 27 = .ok (.bipush 16, 2) := by decide +kernel
theorem dX5_restore_29 : decode cX5_restore 29 = .ok (.if_icmp .ge 46, 3) := by decide +kernel
theorem dX5_restore_32 : decode cX5_restore 32 = .ok (.aload_n 0, 1) := by decide +kernel
theorem dX5_restore_33 : decode cX5_restore 33 = .ok (.getfield 7, 3) := by decide +kernel
theorem dX5_restore_36 : decode cX5_restore 36 = .ok (.iload_n 2, 1) := by decide +kernel
theorem dX5_restore_37 : decode cX5_restore 37 = .ok (.aload_n 0, 1) := by decide +kernel
theorem dX5_restore_38 : decode cX5_restore 38 = .ok (.getfield 38, 3) := by decide +kernel
theorem dX5_restore_41 : decode cX5_restore 41 = .ok (.bipush 32, 2) := by decide +kernel
theorem dX5_restore_43 : decode cX5_restore 43 = .ok (.iload_n 1, 1) := by decide +kernel
theorem dX5_restore_44 : decode cX5_restore 44 = .ok (.imul, 1) := by decide +kernel
theorem dX5_restore_45 : decode cX5_restore 45 = .ok (.iload_n 2, 1) := by decide +kernel
theorem dX5_restore_46 : decode cX5_restore 46 = .ok (.iadd, 1) := by decide +kernel
theorem dX5_restore_47 : decode cX5_restore 47 = .ok (.iaload, 1) := by decide +kernel
theorem dX5_restore_48 : decode cX5_restore 48 = .ok (.iastore, 1) := by decide +kernel
theorem dX5_restore_49 : decode cX5_restore 49 = .ok (.aload_n 0, 1) := by decide +kernel
theorem dX5_restore_50 : decode cX5_restore 50 = .ok (.getfield 13, 3) := by decide +kernel
theorem dX5_restore_53 : decode cX5_restore 53 = .ok (.iload_n 2, 1) := by decide +kernel
theorem dX5_restore_54 : decode cX5_restore 54 = .ok (.aload_n 0, 1) := by decide +kernel
theorem dX5_restore_55 : decode cX5_restore 55 = .ok (.getfield 38, 3) := by decide +kernel
theorem dX5_restore_58 : decode cX5_restore 58 = .ok (.bipush 32, 2) := by decide +kernel
theorem dX5_restore_60 : decode cX5_restore 60 = .ok (.iload_n 1, 1) := by decide +kernel
theorem dX5_restore_61 : decode cX5_restore 61 = .ok (.imul, 1) := by decide +kernel
theorem dX5_restore_62 : decode cX5_restore 62 = .ok (.bipush 16, 2) := by decide +kernel
theorem dX5_restore_64 : decode cX5_restore 64 = .ok (.iadd, 1) := by decide +kernel
theorem dX5_restore_65 : decode cX5_restore 65 = .ok (.iload_n 2, 1) := by decide +kernel
theorem dX5_restore_66 : decode cX5_restore 66 = .ok (.iadd, 1) := by decide +kernel
theorem dX5_restore_67 : decode cX5_restore 67 = .ok (.iaload, 1) := by decide +kernel
theorem dX5_restore_68 : decode cX5_restore 68 = .ok (.iastore, 1) := by decide +kernel
theorem dX5_restore_69 : decode cX5_restore 69 = .ok (.iinc 2 1, 3) := by decide +kernel
theorem dX5_restore_72 : decode cX5_restore 72 = .ok (.goto (-46), 3) := by decide +kernel
theorem dX5_restore_75 : decode cX5_restore 75 = .ok (.iconst 0, 1) := by decide +kernel
theorem dX5_restore_76 : decode cX5_restore 76 = .ok (.istore_n 2, 1) := by decide +kernel
theorem dX5_restore_77 : decode cX5_restore 77 = .ok (.iload_n 2, 1) := by decide +kernel
theorem dX5_restore_78 : decode cX5_restore 78 = .ok (.bipush 8, 2) := by decide +kernel
theorem dX5_restore_80 : decode cX5_restore 80 = .ok (.if_icmp .ge 70, 3) := by decide +kernel
theorem dX5_restore_83 : decode cX5_restore 83 = .ok (.aload_n 0, 1) := by decide +kernel
theorem dX5_restore_84 : decode cX5_restore 84 = .ok (.getfield 16, 3) := by decide +kernel
theorem dX5_restore_87 : decode cX5_restore 87 = .ok (.iload_n 2, 1) := by decide +kernel
theorem dX5_restore_88 : decode cX5_restore 88 = .ok (.aload_n 0, 1) := by decide +kernel
theorem dX5_restore_89 : decode cX5_restore 89 = .ok (.getfield 44, 3) := by decide +kernel
theorem dX5_restore_92 : decode cX5_restore 92 = .ok (.bipush 24, 2) := by decide +kernel
theorem dX5_restore_94 : decode cX5_restore 94 = .ok (.iload_n 1, 1) := by decide +kernel
theorem dX5_restore_95 : decode cX5_restore 95 = .ok (.imul, 1) := by decide +kernel
theorem dX5_restore_96 : decode cX5_restore 96 = .ok (.iconst 3, 1) := by decide +kernel
theorem dX5_restore_97 : decode cX5_restore 97 = .ok (.iload_n 2, 1) := by decide +kernel
theorem dX5_restore_98 : decode cX5_restore 98 = .ok (.imul, 1) := by decide +kernel
theorem dX5_restore_99 : decode cX5_restore 99 = .ok (.iadd, 1) := by decide +kernel
theorem dX5_restore_100 : decode cX5_restore 100 = .ok (.iaload, 1) := by decide +kernel
theorem dX5_restore_101 : decode cX5_restore 101 = .ok (.iastore, 1) := by decide +kernel
theorem dX5_restore_102 : decode cX5_restore 102 = .ok (.aload_n 0, 1) := by decide +kernel
theorem dX5_restore_103 : decode cX5_restore 103 = .ok (.getfield 19, 3) := by decide +kernel
theorem dX5_restore_106 : decode cX5_restore 106 = .ok (.iload_n 2, 1) := by decide +kernel
theorem dX5_restore_107 : decode cX5_restore 107 = .ok (.aload_n 0, 1) := by decide +kernel
theorem dX5_restore_108 : decode cX5_restore 108 = .ok (.getfield 44, 3) := by decide +kernel
theorem dX5_restore_111 : decode cX5_restore 111 = .ok (.bipush 24, 2) := by decide +kernel
theorem dX5_restore_113 : decode cX5_restore 113 = .ok (.iload_n 1, 1) := by decide +kernel
theorem dX5_restore_114 : decode cX5_restore 114 = .ok (.imul, 1) := by decide +kernel
theorem dX5_restore_115 : decode cX5_restore 115 = .ok (.iconst 3, 1) := by decide +kernel
theorem dX5_restore_116 : decode cX5_restore 116 = .ok (.iload_n 2, 1) := by decide +kernel
theorem dX5_restore_117 : decode cX5_restore 117 = .ok (.imul, 1) := by decide +kernel
theorem dX5_restore_118 : decode cX5_restore 118 = .ok (.iadd, 1) := by decide +kernel
theorem dX5_restore_119 : decode cX5_restore 119 = .ok (.iconst 1, 1) := by decide +kernel
theorem dX5_restore_120 : decode cX5_restore 120 = .ok (.iadd, 1) := by decide +kernel
theorem dX5_restore_121 : decode cX5_restore 121 = .ok (.iaload, 1) := by decide +kernel
theorem dX5_restore_122 : decode cX5_restore 122 = .ok (.iastore, 1) := by decide +kernel
theorem dX5_restore_123 : decode cX5_restore 123 = .ok (.aload_n 0, 1) := by decide +kernel
theorem dX5_restore_124 : decode cX5_restore 124 = .ok (.getfield 22, 3) := by decide +kernel
theorem dX5_restore_127 : decode cX5_restore 127 = .ok (.iload_n 2, 1) := by decide +kernel
theorem dX5_restore_128 : decode cX5_restore 128 = .ok (.aload_n 0, 1) := by decide +kernel
theorem dX5_restore_129 : decode cX5_restore 129 = .ok (.getfield 44, 3) := by decide +kernel
theorem dX5_restore_132 : decode cX5_restore 132 = .ok (.bipush 24, 2) := by decide +kernel
theorem dX5_restore_134 : decode cX5_restore 134 = .ok (.iload_n 1, 1) := by decide +kernel
theorem dX5_restore_135 : decode cX5_restore 135 = .ok (.imul, 1) := by decide +kernel
theorem dX5_restore_136 : decode cX5_restore 136 = .ok (.iconst 3, 1) := by decide +kernel
theorem dX5_restore_137 : decode cX5_restore 137 = .ok (.iload_n 2, 1) := by decide +kernel
theorem dX5_restore_138 : decode cX5_restore 138 = .ok (.imul, 1) := by decide +kernel
theorem dX5_restore_139 : decode cX5_restore 139 = .ok (.iadd, 1) := by decide +kernel
theorem dX5_restore_140 : decode cX5_restore 140 = .ok (.iconst 2, 1) := by decide +kernel
theorem dX5_restore_141 : decode cX5_restore 141 = .ok (.iadd, 1) := by decide +kernel
theorem dX5_restore_142 : decode cX5_restore 142 = .ok (.iaload, 1) := by decide +kernel
theorem dX5_restore_143 : decode cX5_restore 143 = .ok (.iastore, 1) := by decide +kernel
theorem dX5_restore_144 : decode cX5_restore 144 = .ok (.iinc 2 1, 3) := by decide +kernel
theorem dX5_restore_147 : decode cX5_restore 147 = .ok (.goto (-70), 3) := by decide +kernel
theorem dX5_restore_150 : decode cX5_restore 150 = .ok (.iconst 0, 1) := by decide +kernel
theorem dX5_restore_151 : decode cX5_restore 151 = .ok (.istore_n 2, 1) := by decide +kernel
theorem dX5_restore_152 : decode cX5_restore 152 = .ok (.iload_n 2, 1) := by decide +kernel
theorem dX5_restore_153 : decode cX5_restore 153 = .ok (.sipush 512, 3) := by decide +kernel
theorem dX5_restore_156 : decode cX5_restore 156 = .ok (.if_icmp .ge 45, 3) := by decide +kernel
theorem dX5_restore_159 : decode cX5_restore 159 = .ok (.aload_n 0, 1) := by decide +kernel
theorem dX5_restore_160 : decode cX5_restore 160 = .ok (.getfield 25, 3) := by decide +kernel
theorem dX5_restore_163 : decode cX5_restore 163 = .ok (.iload_n 2, 1) := by decide +kernel
theorem dX5_restore_164 : decode cX5_restore 164 = .ok (.aload_n 0, 1) := by decide +kernel
theorem dX5_restore_165 : decode cX5_restore 165 = .ok (.getfield 47, 3) := by decide +kernel
theorem dX5_restore_168 : decode cX5_restore 168 = .ok (.sipush 512, 3) := by decide +kernel
theorem dX5_restore_171 : decode cX5_restore 171 = .ok (.iload_n 1, 1) := by decide +kernel
theorem dX5_restore_172 : decode cX5_restore 172 = .ok (.imul, 1) := by decide +kernel
theorem dX5_restore_173 : decode cX5_restore 173 = .ok (.iload_n 2, 1) := by decide +kernel
theorem dX5_restore_174 : decode cX5_restore 174 = .ok (.iadd, 1) := by decide +kernel
theorem dX5_restore_175 : decode cX5_restore 175 = .ok (.baload, 1) := by decide +kernel
theorem dX5_restore_176 : decode cX5_restore 176 = .ok (.bastore, 1) := by decide +kernel
theorem dX5_restore_177 : decode cX5_restore 177 = .ok (.aload_n 0, 1) := by decide +kernel
theorem dX5_restore_178 : decode cX5_restore 178 = .ok (.getfield 29, 3) := by decide +kernel
theorem dX5_restore_181 : decode cX5_restore 181 = .ok (.iload_n 2, 1) := by decide +kernel
theorem dX5_restore_182 : decode cX5_restore 182 = .ok (.aload_n 0, 1) := by decide +kernel
theorem dX5_restore_183 : decode cX5_restore 183 = .ok (.getfield 50, 3) := by decide +kernel
theorem dX5_restore_186 : decode cX5_restore 186 = .ok (.sipush 512, 3) := by decide +kernel
theorem dX5_restore_189 : decode cX5_restore 189 = .ok (.iload_n 1, 1) := by decide +kernel
theorem dX5_restore_190 : decode cX5_restore 190 = .ok (.imul, 1) := by decide +kernel
theorem dX5_restore_191 : decode cX5_restore 191 = .ok (.iload_n 2, 1) := by decide +kernel
theorem dX5_restore_192 : decode cX5_restore 192 = .ok (.iadd, 1) := by decide +kernel
theorem dX5_restore_193 : decode cX5_restore 193 = .ok (.iaload, 1) := by decide +kernel
theorem dX5_restore_194 : decode cX5_restore 194 = .ok (.iastore, 1) := by decide +kernel
theorem dX5_restore_195 : decode cX5_restore 195 = .ok (.iinc 2 1, 3) := by decide +kernel
theorem dX5_restore_198 : decode cX5_restore 198 = .ok (.goto (-46), 3) := by decide +kernel
theorem dX5_restore_201 : decode cX5_restore 201 = .ok (.aload_n 0, 1) := by decide +kernel
theorem dX5_restore_202 : decode cX5_restore 202 = .ok (.aload_n 0, 1) := by decide +kernel
theorem dX5_restore_203 : decode cX5_restore 203 = .ok (.getfield 41, 3) := by decide +kernel
theorem dX5_restore_206 : decode cX5_restore 206 = .ok (.iload_n 1, 1) := by decide +kernel
theorem dX5_restore_207 : decode cX5_restore 207 = .ok (.iaload, 1) := by decide +kernel
theorem dX5_restore_208 : decode cX5_restore 208 = .ok (.putfield 53, 3) := by decide +kernel
theorem dX5_restore_211 : decode cX5_restore 211 = .ok (.aload_n 0, 1) := by decide +kernel
theorem dX5_restore_212 : decode cX5_restore 212 = .ok (.iconst 0, 1) := by decide +kernel
theorem dX5_restore_213 : decode cX5_restore 213 = .ok (.putfield 61, 3) := by decide +kernel
theorem dX5_restore_216 : decode cX5_restore 216 = .ok (.iconst 1, 1) := by decide +kernel
theorem dX5_restore_217 : decode cX5_restore 217 = .ok (.ireturn, 1) := by decide +kernel
set_option maxRecDepth 20000 in
theorem ggX5_count_X5_plots : GoodIn wsX5_count wsX5_plots := goodIn_r _ [13, 7, 8, 17, 18, 19, 20, 21, 22, 23, 24, 25, 26, 27, 28, 29, 30, 31, 32, 33, 34, 35] (by decide +kernel) (by decide +kernel)
set_option maxRecDepth 20000 in
theorem gX5_count_X5_plots : GoodIn wsX5_count (wsV RX5 64 RX5 yX5_plots wsX5_plots) := goodIn_app (goodIn_of _ (by decide +kernel)) ggX5_count_X5_plots
set_option maxRecDepth 20000 in
theorem ggX5_count_X5_in : GoodIn wsX5_count wsX5_in := goodIn_r _ [16] (by decide +kernel) (by decide +kernel)
set_option maxRecDepth 20000 in
theorem gX5_count_X5_in : GoodIn wsX5_count (va_wsS RX5 57 yX5_in wsX5_in) := goodIn_app (goodIn_of _ (by decide +kernel)) ggX5_count_X5_in
theorem dX5_count_0 : decode cX5_count 0 = .ok (.iload_n 1, 1) := by decide +kernel
theorem dX5_count_1 : decode cX5_count 1 = .ok (.tableswitch 103 0 6 #[43, 48, 53, 58, 63, 68, 73], 43) := by decide +kernel
theorem dX5_count_44 : decode cX5_count 44 = .ok (.aload_n 0, 1) := by decide +kernel
theorem dX5_count_45 : decode cX5_count 45 = .ok (.getfield 53, 3) := by decide +kernel
theorem dX5_count_48 : decode cX5_count 48 = .ok (.ireturn, 1) := by decide +kernel
theorem dX5_count_49 : decode cX5_count 49 = .ok (.aload_n 0, 1) := by decide +kernel
theorem dX5_count_50 : decode cX5_count 50 = .ok (.invokevirtual 64, 3) := by decide +kernel
theorem dX5_count_53 : decode cX5_count 53 = .ok (.ireturn, 1) := by decide +kernel
theorem dX5_count_54 : decode cX5_count 54 = .ok (.aload_n 0, 1) := by decide +kernel
theorem dX5_count_55 : decode cX5_count 55 = .ok (.getfield 61, 3) := by decide +kernel
theorem dX5_count_58 : decode cX5_count 58 = .ok (.ireturn, 1) := by decide +kernel
theorem dX5_count_59 : decode cX5_count 59 = .ok (.aload_n 0, 1) := by decide +kernel
theorem dX5_count_60 : decode cX5_count 60 = .ok (.getfield 103, 3) := by decide +kernel
theorem dX5_count_63 : decode cX5_count 63 = .ok (.ireturn, 1) := by decide +kernel
theorem dX5_count_64 : decode cX5_count 64 = .ok (.aload_n 0, 1) := by decide +kernel
theorem dX5_count_65 : decode cX5_count 65 = .ok (.getfield 106, 3) := by decide +kernel
theorem dX5_count_68 : decode cX5_count 68 = .ok (.ireturn, 1) := by decide +kernel
theorem dX5_count_69 : decode cX5_count 69 = .ok (.aload_n 0, 1) := by decide +kernel
theorem dX5_count_70 : decode cX5_count 70 = .ok (.getfield 109, 3) := by decide +kernel
theorem dX5_count_73 : decode cX5_count 73 = .ok (.ireturn, 1) := by decide +kernel
theorem dX5_count_74 : decode cX5_count 74 = .ok (.aload_n 0, 1) := by decide +kernel
theorem dX5_count_75 : decode cX5_count 75 = .ok (.getfield 35, 3) := by decide +kernel
theorem dX5_count_78 : decode cX5_count 78 = .ok (.iconst 0, 1) := by decide +kernel
theorem dX5_count_79 : decode cX5_count 79 = .ok (.baload, 1) := by decide +kernel
theorem dX5_count_80 : decode cX5_count 80 = .ok (.ifCond .eq 7, 3) := by decide +kernel
theorem dX5_count_83 : decode cX5_count 83 = .ok (.iconst 1, 1) := by decide +kernel
theorem dX5_count_84 : decode cX5_count 84 = .ok (.goto 4, 3) := by decide +kernel
theorem dX5_count_87 : decode cX5_count 87 = .ok (.iconst 0, 1) := by decide +kernel
theorem dX5_count_88 : decode cX5_count 88 = .ok (.aload_n 0, 1) := by decide +kernel
theorem dX5_count_89 : decode cX5_count 89 = .ok (.getfield 35, 3) := by decide +kernel
theorem dX5_count_92 : decode cX5_count 92 = .ok (.iconst 1, 1) := by decide +kernel
theorem dX5_count_93 : decode cX5_count 93 = .ok (.baload, 1) := by decide +kernel
theorem dX5_count_94 : decode cX5_count 94 = .ok (.ifCond .eq 7, 3) := by decide +kernel
theorem dX5_count_97 : decode cX5_count 97 = .ok (.iconst 2, 1) := by decide +kernel
theorem dX5_count_98 : decode cX5_count 98 = .ok (.goto 4, 3) := by decide +kernel
theorem dX5_count_101 : decode cX5_count 101 = .ok (.iconst 0, 1) := by decide +kernel
theorem dX5_count_102 : decode cX5_count 102 = .ok (.iadd, 1) := by decide +kernel
theorem dX5_count_103 : decode cX5_count 103 = .ok (.ireturn, 1) := by decide +kernel
theorem dX5_count_104 : decode cX5_count 104 = .ok (.iload_n 1, 1) := by decide +kernel
theorem dX5_count_105 : decode cX5_count 105 = .ok (.bipush 10, 2) := by decide +kernel
theorem dX5_count_107 : decode cX5_count 107 = .ok (.bipush 25, 2) := by decide +kernel
theorem dX5_count_109 : decode cX5_count 109 = .ok (.invokestatic 57, 3) := by decide +kernel
theorem dX5_count_112 : decode cX5_count 112 = .ok (.ifCond .eq 39, 3) := by decide +kernel
theorem dX5_count_115 : decode cX5_count 115 = .ok (.aload_n 0, 1) := by decide +kernel
theorem dX5_count_116 : decode cX5_count 116 = .ok (.getfield 7, 3) := by decide +kernel
theorem dX5_count_119 : decode cX5_count 119 = .ok (.iload_n 1, 1) := by decide +kernel
theorem dX5_count_120 : decode cX5_count 120 = .ok (.bipush 10, 2) := by decide +kernel
theorem dX5_count_122 : decode cX5_count 122 = .ok (.isub, 1) := by decide +kernel
theorem dX5_count_123 : decode cX5_count 123 = .ok (.iaload, 1) := by decide +kernel
theorem dX5_count_124 : decode cX5_count 124 = .ok (.aload_n 0, 1) := by decide +kernel
theorem dX5_count_125 : decode cX5_count 125 = .ok (.getfield 13, 3) := by decide +kernel
theorem dX5_count_128 : decode cX5_count 128 = .ok (.iload_n 1, 1) := by decide +kernel
theorem dX5_count_129 : decode cX5_count 129 = .ok (.bipush 10, 2) := by decide +kernel
theorem dX5_count_131 : decode cX5_count 131 = .ok (.isub, 1) := by decide +kernel
theorem dX5_count_132 : decode cX5_count 132 = .ok (.iaload, 1) := by decide +kernel
theorem dX5_count_133 : decode cX5_count 133 = .ok (.if_icmp .gt 15, 3) := by decide +kernel
theorem dX5_count_136 : decode cX5_count 136 = .ok (.aload_n 0, 1) := by decide +kernel
theorem dX5_count_137 : decode cX5_count 137 = .ok (.getfield 7, 3) := by decide +kernel
theorem dX5_count_140 : decode cX5_count 140 = .ok (.iload_n 1, 1) := by decide +kernel
theorem dX5_count_141 : decode cX5_count 141 = .ok (.bipush 10, 2) := by decide +kernel
theorem dX5_count_143 : decode cX5_count 143 = .ok (.isub, 1) := by decide +kernel
theorem dX5_count_144 : decode cX5_count 144 = .ok (.iaload, 1) := by decide +kernel
theorem dX5_count_145 : decode cX5_count 145 = .ok (.goto 5, 3) := by decide +kernel
theorem dX5_count_148 : decode cX5_count 148 = .ok (.bipush (-6), 2) := by decide +kernel
theorem dX5_count_150 : decode cX5_count 150 = .ok (.ireturn, 1) := by decide +kernel
theorem dX5_count_151 : decode cX5_count 151 = .ok (.iload_n 1, 1) := by decide +kernel
theorem dX5_count_152 : decode cX5_count 152 = .ok (.bipush 30, 2) := by decide +kernel
theorem dX5_count_154 : decode cX5_count 154 = .ok (.bipush 45, 2) := by decide +kernel
theorem dX5_count_156 : decode cX5_count 156 = .ok (.invokestatic 57, 3) := by decide +kernel
theorem dX5_count_159 : decode cX5_count 159 = .ok (.ifCond .eq 39, 3) := by decide +kernel
theorem dX5_count_162 : decode cX5_count 162 = .ok (.aload_n 0, 1) := by decide +kernel
theorem dX5_count_163 : decode cX5_count 163 = .ok (.getfield 7, 3) := by decide +kernel
theorem dX5_count_166 : decode cX5_count 166 = .ok (.iload_n 1, 1) := by decide +kernel
theorem dX5_count_167 : decode cX5_count 167 = .ok (.bipush 30, 2) := by decide +kernel
theorem dX5_count_169 : decode cX5_count 169 = .ok (.isub, 1) := by decide +kernel
theorem dX5_count_170 : decode cX5_count 170 = .ok (.iaload, 1) := by decide +kernel
theorem dX5_count_171 : decode cX5_count 171 = .ok (.aload_n 0, 1) := by decide +kernel
theorem dX5_count_172 : decode cX5_count 172 = .ok (.getfield 13, 3) := by decide +kernel
theorem dX5_count_175 : decode cX5_count 175 = .ok (.iload_n 1, 1) := by decide +kernel
theorem dX5_count_176 : decode cX5_count 176 = .ok (.bipush 30, 2) := by decide +kernel
theorem dX5_count_178 : decode cX5_count 178 = .ok (.isub, 1) := by decide +kernel
theorem dX5_count_179 : decode cX5_count 179 = .ok (.iaload, 1) := by decide +kernel
theorem dX5_count_180 : decode cX5_count 180 = .ok (.if_icmp .gt 15, 3) := by decide +kernel
theorem dX5_count_183 : decode cX5_count 183 = .ok (.aload_n 0, 1) := by decide +kernel
theorem dX5_count_184 : decode cX5_count 184 = .ok (.getfield 13, 3) := by decide +kernel
theorem dX5_count_187 : decode cX5_count 187 = .ok (.iload_n 1, 1) := by decide +kernel
theorem dX5_count_188 : decode cX5_count 188 = .ok (.bipush 30, 2) := by decide +kernel
theorem dX5_count_190 : decode cX5_count 190 = .ok (.isub, 1) := by decide +kernel
theorem dX5_count_191 : decode cX5_count 191 = .ok (.iaload, 1) := by decide +kernel
theorem dX5_count_192 : decode cX5_count 192 = .ok (.goto 5, 3) := by decide +kernel
theorem dX5_count_195 : decode cX5_count 195 = .ok (.bipush (-6), 2) := by decide +kernel
theorem dX5_count_197 : decode cX5_count 197 = .ok (.ireturn, 1) := by decide +kernel
theorem dX5_count_198 : decode cX5_count 198 = .ok (.bipush (-2), 2) := by decide +kernel
theorem dX5_count_200 : decode cX5_count 200 = .ok (.ireturn, 1) := by decide +kernel
end
section
theorem dJ13_bitCount_95d88_0 : decode cJ13_bitCount_95d88 0 = .ok (.lload_n 0, 1) := by decide +kernel
theorem dJ13_bitCount_95d88_1 : decode cJ13_bitCount_95d88 1 = .ok (.lload_n 0, 1) := by decide +kernel
theorem dJ13_bitCount_95d88_2 : decode cJ13_bitCount_95d88 2 = .ok (.iconst 1, 1) := by decide +kernel
theorem dJ13_bitCount_95d88_3 : decode cJ13_bitCount_95d88 3 = .ok (.lushr, 1) := by decide +kernel
theorem dJ13_bitCount_95d88_4 : decode cJ13_bitCount_95d88 4 = .ok (.ldc2_w 314, 3) := by decide +kernel
theorem dJ13_bitCount_95d88_7 : decode cJ13_bitCount_95d88 7 = .ok (.land, 1) := by decide +kernel
theorem dJ13_bitCount_95d88_8 : decode cJ13_bitCount_95d88 8 = .ok (.lsub, 1) := by decide +kernel
theorem dJ13_bitCount_95d88_9 : decode cJ13_bitCount_95d88 9 = .ok (.lstore_n 0, 1) := by decide +kernel
theorem dJ13_bitCount_95d88_10 : decode cJ13_bitCount_95d88 10 = .ok (.lload_n 0, 1) := by decide +kernel
theorem dJ13_bitCount_95d88_11 : decode cJ13_bitCount_95d88 11 = .ok (.ldc2_w 316, 3) := by decide +kernel
theorem dJ13_bitCount_95d88_14 : decode cJ13_bitCount_95d88 14 = .ok (.land, 1) := by decide +kernel
theorem dJ13_bitCount_95d88_15 : decode cJ13_bitCount_95d88 15 = .ok (.lload_n 0, 1) := by decide +kernel
theorem dJ13_bitCount_95d88_16 : decode cJ13_bitCount_95d88 16 = .ok (.iconst 2, 1) := by decide +kernel
theorem dJ13_bitCount_95d88_17 : decode cJ13_bitCount_95d88 17 = .ok (.lushr, 1) := by decide +kernel
theorem dJ13_bitCount_95d88_18 : decode cJ13_bitCount_95d88 18 = .ok (.ldc2_w 316, 3) := by decide +kernel
theorem dJ13_bitCount_95d88_21 : decode cJ13_bitCount_95d88 21 = .ok (.land, 1) := by decide +kernel
theorem dJ13_bitCount_95d88_22 : decode cJ13_bitCount_95d88 22 = .ok (.ladd, 1) := by decide +kernel
theorem dJ13_bitCount_95d88_23 : decode cJ13_bitCount_95d88 23 = .ok (.lstore_n 0, 1) := by decide +kernel
theorem dJ13_bitCount_95d88_24 : decode cJ13_bitCount_95d88 24 = .ok (.lload_n 0, 1) := by decide +kernel
theorem dJ13_bitCount_95d88_25 : decode cJ13_bitCount_95d88 25 = .ok (.lload_n 0, 1) := by decide +kernel
theorem dJ13_bitCount_95d88_26 : decode cJ13_bitCount_95d88 26 = .ok (.iconst 4, 1) := by decide +kernel
theorem dJ13_bitCount_95d88_27 : decode cJ13_bitCount_95d88 27 = .ok (.lushr, 1) := by decide +kernel
theorem dJ13_bitCount_95d88_28 : decode cJ13_bitCount_95d88 28 = .ok (.ladd, 1) := by decide +kernel
theorem dJ13_bitCount_95d88_29 : decode cJ13_bitCount_95d88 29 = .ok (.ldc2_w 318, 3) := by decide +kernel
theorem dJ13_bitCount_95d88_32 : decode cJ13_bitCount_95d88 32 = .ok (.land, 1) := by decide +kernel
theorem dJ13_bitCount_95d88_33 : decode cJ13_bitCount_95d88 33 = .ok (.lstore_n 0, 1) := by decide +kernel
theorem dJ13_bitCount_95d88_34 : decode cJ13_bitCount_95d88 34 = .ok (.lload_n 0, 1) := by decide +kernel
theorem dJ13_bitCount_95d88_35 : decode cJ13_bitCount_95d88 35 = .ok (.lload_n 0, 1) := by decide +kernel
theorem dJ13_bitCount_95d88_36 : decode cJ13_bitCount_95d88 36 = .ok (.bipush 8, 2) := by decide +kernel
theorem dJ13_bitCount_95d88_38 : decode cJ13_bitCount_95d88 38 = .ok (.lushr, 1) := by decide +kernel
theorem dJ13_bitCount_95d88_39 : decode cJ13_bitCount_95d88 39 = .ok (.ladd, 1) := by decide +kernel
theorem dJ13_bitCount_95d88_40 : decode cJ13_bitCount_95d88 40 = .ok (.lstore_n 0, 1) := by decide +kernel
theorem dJ13_bitCount_95d88_41 : decode cJ13_bitCount_95d88 41 = .ok (.lload_n 0, 1) := by decide +kernel
theorem dJ13_bitCount_95d88_42 : decode cJ13_bitCount_95d88 42 = .ok (.lload_n 0, 1) := by decide +kernel
theorem dJ13_bitCount_95d88_43 : decode cJ13_bitCount_95d88 43 = .ok (.bipush 16, 2) := by decide +kernel
theorem dJ13_bitCount_95d88_45 : decode cJ13_bitCount_95d88 45 = .ok (.lushr, 1) := by decide +kernel
theorem dJ13_bitCount_95d88_46 : decode cJ13_bitCount_95d88 46 = .ok (.ladd, 1) := by decide +kernel
theorem dJ13_bitCount_95d88_47 : decode cJ13_bitCount_95d88 47 = .ok (.lstore_n 0, 1) := by decide +kernel
theorem dJ13_bitCount_95d88_48 : decode cJ13_bitCount_95d88 48 = .ok (.lload_n 0, 1) := by decide +kernel
theorem dJ13_bitCount_95d88_49 : decode cJ13_bitCount_95d88 49 = .ok (.lload_n 0, 1) := by decide +kernel
theorem dJ13_bitCount_95d88_50 : decode cJ13_bitCount_95d88 50 = .ok (.bipush 32, 2) := by decide +kernel
theorem dJ13_bitCount_95d88_52 : decode cJ13_bitCount_95d88 52 = .ok (.lushr, 1) := by decide +kernel
theorem dJ13_bitCount_95d88_53 : decode cJ13_bitCount_95d88 53 = .ok (.ladd, 1) := by decide +kernel
theorem dJ13_bitCount_95d88_54 : decode cJ13_bitCount_95d88 54 = .ok (.lstore_n 0, 1) := by decide +kernel
theorem dJ13_bitCount_95d88_55 : decode cJ13_bitCount_95d88 55 = .ok (.lload_n 0, 1) := by decide +kernel
theorem dJ13_bitCount_95d88_56 : decode cJ13_bitCount_95d88 56 = .ok (.l2i, 1) := by decide +kernel
theorem dJ13_bitCount_95d88_57 : decode cJ13_bitCount_95d88 57 = .ok (.bipush 127, 2) := by decide +kernel
theorem dJ13_bitCount_95d88_59 : decode cJ13_bitCount_95d88 59 = .ok (.iand, 1) := by decide +kernel
theorem dJ13_bitCount_95d88_60 : decode cJ13_bitCount_95d88 60 = .ok (.ireturn, 1) := by decide +kernel
theorem dJ9_abs_0f7a4_0 : decode cJ9_abs_0f7a4 0 = .ok (.iload_n 0, 1) := by decide +kernel
theorem dJ9_abs_0f7a4_1 : decode cJ9_abs_0f7a4 1 = .ok (.ifCond .ge 8, 3) := by decide +kernel
theorem dJ9_abs_0f7a4_4 : decode cJ9_abs_0f7a4 4 = .ok (.iload_n 0, 1) := by decide +kernel
theorem dJ9_abs_0f7a4_5 : decode cJ9_abs_0f7a4 5 = .ok (.ineg, 1) := by decide +kernel
theorem dJ9_abs_0f7a4_6 : decode cJ9_abs_0f7a4 6 = .ok (.goto 4, 3) := by decide +kernel
theorem dJ9_abs_0f7a4_9 : decode cJ9_abs_0f7a4 9 = .ok (.iload_n 0, 1) := by decide +kernel
theorem dJ9_abs_0f7a4_10 : decode cJ9_abs_0f7a4 10 = .ok (.ireturn, 1) := by decide +kernel
theorem dJ9_max_7cf53_0 : decode cJ9_max_7cf53 0 = .ok (.iload_n 0, 1) := by decide +kernel
theorem dJ9_max_7cf53_1 : decode cJ9_max_7cf53 1 = .ok (.iload_n 1, 1) := by decide +kernel
theorem dJ9_max_7cf53_2 : decode cJ9_max_7cf53 2 = .ok (.if_icmp .lt 7, 3) := by decide +kernel
theorem dJ9_max_7cf53_5 : decode cJ9_max_7cf53 5 = .ok (.iload_n 0, 1) := by decide +kernel
theorem dJ9_max_7cf53_6 : decode cJ9_max_7cf53 6 = .ok (.goto 4, 3) := by decide +kernel
theorem dJ9_max_7cf53_9 : decode cJ9_max_7cf53 9 = .ok (.iload_n 1, 1) := by decide +kernel
theorem dJ9_max_7cf53_10 : decode cJ9_max_7cf53 10 = .ok (.ireturn, 1) := by decide +kernel
set_option maxRecDepth 20000 in
theorem ggL_law_X4_init : GoodIn wsL_law wsX4_init := goodIn_r _ [8, 9, 10, 11, 12, 13, 14, 15, 16, 17, 18, 19, 20, 21, 22, 23, 24, 25, 26, 27, 28, 29, 30, 31, 32, 33, 34, 35, 36, 37, 38, 39, 40, 41, 42, 43, 44, 45, 46, 47, 48, 49, 50, 51, 52, 53, 54, 55, 56, 57, 58, 59, 60, 61, 62, 63, 64, 65, 66, 67, 68, 69, 70, 71, 72, 73, 74, 75, 653, 654, 655, 656, 657, 658, 659, 660, 629, 630, 631, 632, 633, 661, 662, 663, 664, 665, 666, 667, 668, 669, 670, 671, 672, 673, 674, 675, 676, 677, 678, 679] (by decide +kernel) (by decide +kernel)
set_option maxRecDepth 20000 in
theorem gL_law_X4_init : GoodIn wsL_law (wsX4_init) := ggL_law_X4_init
set_option maxRecDepth 20000 in
theorem ggL_law_X5_init : GoodIn wsL_law wsX5_init := goodIn_r _ [78, 79, 10, 11, 30, 80, 81, 82, 83, 84, 85, 86, 87, 88, 89, 90, 91, 92, 93, 94, 634, 635, 636, 637, 638, 639, 640, 641, 642, 643, 644, 645, 646, 647, 648, 649, 650, 651, 652] (by decide +kernel) (by decide +kernel)
set_option maxRecDepth 20000 in
theorem gL_law_X5_init : GoodIn wsL_law (wsX5_init) := ggL_law_X5_init
set_option maxRecDepth 20000 in
theorem ggL_law_X4_row : GoodIn wsL_law wsX4_row := goodIn_r _ [98, 15, 99, 100, 21, 101, 102, 2, 103, 104, 105, 106, 20, 107, 46, 108, 109, 110, 14, 111, 32, 31, 112, 113, 114, 115, 629, 630, 631, 632, 633, 653, 654, 655, 656, 657, 658, 659, 660, 661, 662, 663, 664, 665, 666, 667] (by decide +kernel) (by decide +kernel)
set_option maxRecDepth 20000 in
theorem gL_law_X4_row : GoodIn wsL_law (wsV RL 13 RX4 yX4_row wsX4_row) := goodIn_app (goodIn_of _ (by decide +kernel)) ggL_law_X4_row
set_option maxRecDepth 20000 in
theorem ggL_law_X5_row : GoodIn wsL_law wsX5_row := goodIn_r _ [119, 80, 81, 120, 121, 122, 5, 123, 124, 125, 126, 127, 634, 635, 636, 637, 638, 639, 640, 641, 642, 643, 644, 645, 646, 647, 648, 649, 650, 651, 652] (by decide +kernel) (by decide +kernel)
set_option maxRecDepth 20000 in
theorem gL_law_X5_row : GoodIn wsL_law (wsV RL 17 RX5 yX5_row wsX5_row) := goodIn_app (goodIn_of _ (by decide +kernel)) ggL_law_X5_row
set_option maxRecDepth 20000 in
theorem ggL_law_X4_gauge : GoodIn wsL_law wsX4_gauge := goodIn_r _ [131, 15, 132, 133, 134, 21, 135, 136, 2, 137, 138, 139, 140, 14, 141, 33, 34, 35, 104, 105, 106, 20, 107, 46, 629, 630, 631, 632, 633, 653, 654, 655, 656, 657, 658, 659, 660, 661, 662, 663, 664, 665, 666, 667] (by decide +kernel) (by decide +kernel)
set_option maxRecDepth 20000 in
theorem gL_law_X4_gauge : GoodIn wsL_law (wsV RL 18 RX4 yX4_gauge wsX4_gauge) := goodIn_app (goodIn_of _ (by decide +kernel)) ggL_law_X4_gauge
set_option maxRecDepth 20000 in
theorem ggL_law_X5_gauge : GoodIn wsL_law wsX5_gauge := goodIn_r _ [145, 146, 82, 83, 84, 86, 87, 120, 147, 148, 5, 149, 121, 122, 123, 150, 151, 152, 153, 634, 635, 636, 637, 638, 639, 640, 641, 642, 643, 644, 645, 646, 647, 648, 649, 650, 651, 652] (by decide +kernel) (by decide +kernel)
set_option maxRecDepth 20000 in
theorem gL_law_X5_gauge : GoodIn wsL_law (wsV RL 22 RX5 yX5_gauge wsX5_gauge) := goodIn_app (goodIn_of _ (by decide +kernel)) ggL_law_X5_gauge
set_option maxRecDepth 20000 in
theorem ggL_law_X4_move : GoodIn wsL_law wsX4_move := goodIn_r _ [157, 15, 133, 134, 21, 158, 159, 160, 14, 161, 33, 135, 136, 2, 137, 138, 139, 140, 141, 34, 35, 162, 163, 164, 165, 104, 105, 106, 20, 107, 46, 629, 630, 631, 632, 633, 653, 654, 655, 656, 657, 658, 659, 660, 661, 662, 663, 664, 665, 666, 667] (by decide +kernel) (by decide +kernel)
set_option maxRecDepth 20000 in
theorem gL_law_X4_move : GoodIn wsL_law (wsV RL 23 RX4 yX4_move wsX4_move) := goodIn_app (goodIn_of _ (by decide +kernel)) ggL_law_X4_move
set_option maxRecDepth 20000 in
theorem ggL_law_X5_move : GoodIn wsL_law wsX5_move := goodIn_r _ [169, 82, 83, 120, 170, 171, 172, 5, 173, 146, 121, 122, 123, 147, 148, 149, 150, 151, 152, 153, 174, 175, 176, 634, 635, 636, 637, 638, 639, 640, 641, 642, 643, 644, 645, 646, 647, 648, 649, 650, 651, 652] (by decide +kernel) (by decide +kernel)
set_option maxRecDepth 20000 in
theorem gL_law_X5_move : GoodIn wsL_law (wsV RL 26 RX5 yX5_move wsX5_move) := goodIn_app (goodIn_of _ (by decide +kernel)) ggL_law_X5_move
set_option maxRecDepth 20000 in
theorem ggL_law_X4_reach : GoodIn wsL_law wsX4_reach := goodIn_r _ [180, 15, 181, 21, 158, 159, 160, 14, 161, 33, 104, 105, 106, 20, 107, 46, 629, 630, 631, 632, 633, 653, 654, 655, 656, 657, 658, 659, 660, 661, 662, 663, 664, 665, 666, 667] (by decide +kernel) (by decide +kernel)
set_option maxRecDepth 20000 in
theorem gL_law_X4_reach : GoodIn wsL_law (wsV RL 27 RX4 yX4_reach wsX4_reach) := goodIn_app (goodIn_of _ (by decide +kernel)) ggL_law_X4_reach
set_option maxRecDepth 20000 in
theorem ggL_law_X5_reach : GoodIn wsL_law wsX5_reach := goodIn_r _ [185, 84, 120, 170, 171, 172, 5, 173, 146, 121, 122, 123, 634, 635, 636, 637, 638, 639, 640, 641, 642, 643, 644, 645, 646, 647, 648, 649, 650, 651, 652] (by decide +kernel) (by decide +kernel)
set_option maxRecDepth 20000 in
theorem gL_law_X5_reach : GoodIn wsL_law (wsV RL 30 RX5 yX5_reach wsX5_reach) := goodIn_app (goodIn_of _ (by decide +kernel)) ggL_law_X5_reach
set_option maxRecDepth 20000 in
theorem ggL_law_X4_fail : GoodIn wsL_law wsX4_fail := goodIn_r _ [189, 15, 158, 159, 160, 14, 161, 33, 190, 191, 2, 192, 193, 194, 195, 196, 197, 198, 199, 38, 200, 201, 202, 203, 204, 205, 206, 207, 208, 209, 210, 211, 629, 630, 631, 632, 633, 653, 654, 655, 656, 657, 658, 659, 660] (by decide +kernel) (by decide +kernel)
set_option maxRecDepth 20000 in
theorem gL_law_X4_fail : GoodIn wsL_law (wsV RL 31 RX4 yX4_fail wsX4_fail) := goodIn_app (goodIn_of _ (by decide +kernel)) ggL_law_X4_fail
set_option maxRecDepth 20000 in
theorem ggL_law_X5_fail : GoodIn wsL_law wsX5_fail := goodIn_r _ [215, 86, 170, 171, 172, 5, 173, 146, 121, 122, 123, 216, 217, 218, 219, 220, 221, 222, 634, 635, 636, 637, 638, 639, 640, 641, 642, 643, 644, 645, 646, 647, 648, 649, 650, 651, 652] (by decide +kernel) (by decide +kernel)
set_option maxRecDepth 20000 in
theorem gL_law_X5_fail : GoodIn wsL_law (wsV RL 35 RX5 yX5_fail wsX5_fail) := goodIn_app (goodIn_of _ (by decide +kernel)) ggL_law_X5_fail
set_option maxRecDepth 20000 in
theorem ggL_law_X4_rain : GoodIn wsL_law wsX4_rain := goodIn_r _ [226, 15, 158, 159, 160, 14, 161, 33, 193, 194, 2, 195, 227, 228, 229, 230, 39, 231, 232, 233, 234, 629, 630, 631, 632, 633, 653, 654, 655, 656, 657, 658, 659, 660] (by decide +kernel) (by decide +kernel)
set_option maxRecDepth 20000 in
theorem gL_law_X4_rain : GoodIn wsL_law (wsV RL 36 RX4 yX4_rain wsX4_rain) := goodIn_app (goodIn_of _ (by decide +kernel)) ggL_law_X4_rain
set_option maxRecDepth 20000 in
theorem ggL_law_X5_rain : GoodIn wsL_law wsX5_rain := goodIn_r _ [238, 87, 170, 171, 172, 5, 173, 146, 121, 122, 123, 216, 217, 218, 634, 635, 636, 637, 638, 639, 640, 641, 642, 643, 644, 645, 646, 647, 648, 649, 650, 651, 652] (by decide +kernel) (by decide +kernel)
set_option maxRecDepth 20000 in
theorem gL_law_X5_rain : GoodIn wsL_law (wsV RL 39 RX5 yX5_rain wsX5_rain) := goodIn_app (goodIn_of _ (by decide +kernel)) ggL_law_X5_rain
set_option maxRecDepth 20000 in
theorem ggL_law_X4_of : GoodIn wsL_law wsX4_of := goodIn_r _ [242, 15, 133, 134, 181, 158, 159, 160, 14, 161, 33, 201, 202, 203, 204, 38, 205, 206, 207, 208, 209, 210, 211, 243, 244, 245, 246, 247, 228, 229, 230, 39, 629, 630, 631, 632, 633, 653, 654, 655, 656, 657, 658, 659, 660] (by decide +kernel) (by decide +kernel)
set_option maxRecDepth 20000 in
theorem gL_law_X4_of : GoodIn wsL_law (wsV RL 40 RX4 yX4_of wsX4_of) := goodIn_app (goodIn_of _ (by decide +kernel)) ggL_law_X4_of
set_option maxRecDepth 20000 in
theorem ggL_law_X5_of : GoodIn wsL_law wsX5_of := goodIn_r _ [251, 82, 83, 84, 170, 171, 172, 5, 173, 146, 121, 122, 123, 219, 220, 221, 222, 86, 252, 253, 254, 255, 87, 634, 635, 636, 637, 638, 639, 640, 641, 642, 643, 644, 645, 646, 647, 648, 649, 650, 651, 652] (by decide +kernel) (by decide +kernel)
set_option maxRecDepth 20000 in
theorem gL_law_X5_of : GoodIn wsL_law (wsV RL 43 RX5 yX5_of wsX5_of) := goodIn_app (goodIn_of _ (by decide +kernel)) ggL_law_X5_of
set_option maxRecDepth 20000 in
theorem ggL_law_X4_reading : GoodIn wsL_law wsX4_reading := goodIn_r _ [259, 15, 158, 159, 160, 14, 161, 33, 193, 194, 2, 195, 227, 228, 229, 230, 39, 629, 630, 631, 632, 633, 653, 654, 655, 656, 657, 658, 659, 660] (by decide +kernel) (by decide +kernel)
set_option maxRecDepth 20000 in
theorem gL_law_X4_reading : GoodIn wsL_law (wsV RL 44 RX4 yX4_reading wsX4_reading) := goodIn_app (goodIn_of _ (by decide +kernel)) ggL_law_X4_reading
set_option maxRecDepth 20000 in
theorem ggL_law_X5_reading : GoodIn wsL_law wsX5_reading := goodIn_r _ [263, 87, 170, 171, 172, 5, 173, 146, 121, 122, 123, 216, 217, 218, 634, 635, 636, 637, 638, 639, 640, 641, 642, 643, 644, 645, 646, 647, 648, 649, 650, 651, 652] (by decide +kernel) (by decide +kernel)
set_option maxRecDepth 20000 in
theorem gL_law_X5_reading : GoodIn wsL_law (wsV RL 47 RX5 yX5_reading wsX5_reading) := goodIn_app (goodIn_of _ (by decide +kernel)) ggL_law_X5_reading
set_option maxRecDepth 20000 in
theorem ggL_law_X4_working : GoodIn wsL_law wsX4_working := goodIn_r _ [267, 15, 193, 194, 2, 195, 268, 269, 270, 14, 271, 33, 38, 247, 228, 229, 230, 39, 272, 273, 629, 630, 631, 632, 633, 653, 654, 655, 656, 657, 658, 659, 660] (by decide +kernel) (by decide +kernel)
set_option maxRecDepth 20000 in
theorem gL_law_X4_working : GoodIn wsL_law (wsV RL 48 RX4 yX4_working wsX4_working) := goodIn_app (goodIn_of _ (by decide +kernel)) ggL_law_X4_working
set_option maxRecDepth 20000 in
theorem ggL_law_X5_working : GoodIn wsL_law wsX5_working := goodIn_r _ [277, 216, 217, 5, 218, 121, 122, 123, 278, 279, 280, 281, 146, 86, 87, 634, 635, 636, 637, 638, 639, 640, 641, 642, 643, 644, 645, 646, 647, 648, 649, 650, 651, 652] (by decide +kernel) (by decide +kernel)
set_option maxRecDepth 20000 in
theorem gL_law_X5_working : GoodIn wsL_law (wsV RL 52 RX5 yX5_working wsX5_working) := goodIn_app (goodIn_of _ (by decide +kernel)) ggL_law_X5_working
set_option maxRecDepth 20000 in
theorem ggL_law_X4_owner : GoodIn wsL_law wsX4_owner := goodIn_r _ [285, 15, 21, 193, 194, 2, 195, 101, 102, 103, 286, 287, 288, 14, 289, 31, 32, 268, 269, 270, 271, 33, 38, 247, 228, 229, 230, 39, 272, 273, 290, 291, 292, 20, 293, 46, 45, 294, 47, 48, 53, 295, 296, 297, 298, 299, 300, 301, 302, 49, 303, 304, 305, 51, 306, 58, 59, 307, 308, 60, 61, 309, 310, 311, 312, 313, 314, 315, 316, 317, 318, 319, 320, 321, 322, 323, 629, 630, 631, 632, 633, 653, 654, 655, 656, 657, 658, 659, 660, 661, 662, 663, 664, 665, 666, 667, 676, 677, 678, 679] (by decide +kernel) (by decide +kernel)
set_option maxRecDepth 20000 in
theorem gL_law_X4_owner : GoodIn wsL_law (wsV RL 53 RX4 yX4_owner wsX4_owner) := goodIn_app (goodIn_of _ (by decide +kernel)) ggL_law_X4_owner
set_option maxRecDepth 20000 in
theorem ggL_law_X5_owner : GoodIn wsL_law wsX5_owner := goodIn_r _ [327, 216, 217, 5, 218, 121, 122, 123, 328, 329, 330, 331, 80, 81, 278, 279, 280, 281, 146, 86, 87, 332, 333, 334, 335, 120, 88, 336, 337, 338, 339, 340, 341, 342, 84, 343, 344, 345, 346, 82, 83, 174, 175, 176, 347, 348, 349, 634, 635, 636, 637, 638, 639, 640, 641, 642, 643, 644, 645, 646, 647, 648, 649, 650, 651, 652] (by decide +kernel) (by decide +kernel)
set_option maxRecDepth 20000 in
theorem gL_law_X5_owner : GoodIn wsL_law (wsV RL 56 RX5 yX5_owner wsX5_owner) := goodIn_app (goodIn_of _ (by decide +kernel)) ggL_law_X5_owner
set_option maxRecDepth 20000 in
theorem ggL_law_X4_cell : GoodIn wsL_law wsX4_cell := goodIn_r _ [353, 15, 354, 355, 158, 159, 160, 14, 161, 33, 193, 194, 2, 195, 356, 357, 358, 359, 21, 360, 268, 269, 270, 271, 38, 247, 228, 229, 230, 39, 272, 273, 290, 291, 292, 20, 293, 46, 45, 294, 47, 48, 53, 295, 296, 297, 298, 299, 300, 301, 302, 49, 303, 304, 305, 51, 306, 58, 59, 307, 308, 60, 61, 309, 310, 311, 312, 313, 314, 315, 316, 317, 318, 319, 108, 109, 110, 111, 32, 31, 112, 113, 114, 115, 361, 362, 363, 364, 365, 366, 367, 368, 369, 629, 630, 631, 632, 633, 676, 677, 678, 679, 653, 654, 655, 656, 657, 658, 659, 660, 661, 662, 663, 664, 665, 666, 667] (by decide +kernel) (by decide +kernel)
set_option maxRecDepth 20000 in
theorem gL_law_X4_cell : GoodIn wsL_law (wsV RL 57 RX4 yX4_cell wsX4_cell) := goodIn_app (goodIn_of _ (by decide +kernel)) ggL_law_X4_cell
set_option maxRecDepth 20000 in
theorem ggL_law_X5_cell : GoodIn wsL_law wsX5_cell := goodIn_r _ [373, 170, 171, 172, 5, 173, 146, 121, 122, 123, 216, 217, 218, 278, 279, 280, 281, 86, 87, 332, 333, 334, 335, 120, 88, 336, 337, 338, 374, 375, 376, 377, 328, 329, 330, 331, 80, 81, 339, 340, 341, 342, 84, 343, 344, 345, 346, 82, 83, 174, 175, 176, 347, 348, 349, 378, 379, 380, 381, 124, 125, 126, 127, 382, 383, 384, 385, 386, 387, 634, 635, 636, 637, 638, 639, 640, 641, 642, 643, 644, 645, 646, 647, 648, 649, 650, 651, 652] (by decide +kernel) (by decide +kernel)
set_option maxRecDepth 20000 in
theorem gL_law_X5_cell : GoodIn wsL_law (wsV RL 60 RX5 yX5_cell wsX5_cell) := goodIn_app (goodIn_of _ (by decide +kernel)) ggL_law_X5_cell
set_option maxRecDepth 20000 in
theorem ggL_law_X4_border : GoodIn wsL_law wsX4_border := goodIn_r _ [391, 15, 158, 159, 160, 14, 161, 33, 193, 194, 2, 195, 356, 357, 358, 359, 21, 360, 268, 269, 270, 271, 38, 247, 228, 229, 230, 39, 272, 273, 290, 291, 292, 20, 293, 46, 45, 294, 47, 48, 53, 295, 296, 297, 298, 299, 300, 301, 302, 49, 303, 304, 305, 51, 306, 58, 59, 307, 308, 60, 61, 309, 310, 311, 312, 313, 314, 315, 316, 317, 318, 319, 392, 393, 394, 395, 396, 321, 322, 323, 102, 103, 629, 630, 631, 632, 633, 653, 654, 655, 656, 657, 658, 659, 660, 661, 662, 663, 664, 665, 666, 667, 676, 677, 678, 679] (by decide +kernel) (by decide +kernel)
set_option maxRecDepth 20000 in
theorem gL_law_X4_border : GoodIn wsL_law (wsV RL 61 RX4 yX4_border wsX4_border) := goodIn_app (goodIn_of _ (by decide +kernel)) ggL_law_X4_border
set_option maxRecDepth 20000 in
theorem ggL_law_X5_border : GoodIn wsL_law wsX5_border := goodIn_r _ [400, 170, 171, 172, 5, 173, 146, 121, 122, 123, 216, 217, 218, 278, 279, 280, 281, 86, 87, 332, 333, 334, 335, 120, 88, 336, 337, 338, 401, 402, 403, 404, 405, 406, 407, 408, 328, 329, 330, 331, 80, 81, 339, 340, 341, 342, 84, 343, 344, 345, 346, 82, 83, 174, 175, 176, 347, 348, 349, 409, 410, 411, 412, 634, 635, 636, 637, 638, 639, 640, 641, 642, 643, 644, 645, 646, 647, 648, 649, 650, 651, 652] (by decide +kernel) (by decide +kernel)
set_option maxRecDepth 20000 in
theorem gL_law_X5_border : GoodIn wsL_law (wsV RL 64 RX5 yX5_border wsX5_border) := goodIn_app (goodIn_of _ (by decide +kernel)) ggL_law_X5_border
set_option maxRecDepth 20000 in
theorem ggL_law_X4_neighbours : GoodIn wsL_law wsX4_neighbours := goodIn_r _ [416, 15, 158, 159, 160, 14, 161, 33, 193, 194, 2, 195, 356, 357, 358, 359, 21, 360, 268, 269, 270, 271, 38, 247, 228, 229, 230, 39, 272, 273, 290, 291, 292, 20, 293, 46, 45, 294, 47, 48, 53, 295, 296, 297, 298, 299, 300, 301, 302, 49, 303, 304, 305, 51, 306, 58, 59, 307, 308, 60, 61, 309, 310, 311, 312, 313, 314, 315, 316, 317, 318, 319, 417, 418, 419, 420, 396, 321, 322, 323, 102, 103, 421, 422, 423, 424, 425, 426, 629, 630, 631, 632, 633, 653, 654, 655, 656, 657, 658, 659, 660, 661, 662, 663, 664, 665, 666, 667, 676, 677, 678, 679] (by decide +kernel) (by decide +kernel)
set_option maxRecDepth 20000 in
theorem gL_law_X4_neighbours : GoodIn wsL_law (wsV RL 65 RX4 yX4_neighbours wsX4_neighbours) := goodIn_app (goodIn_of _ (by decide +kernel)) ggL_law_X4_neighbours
set_option maxRecDepth 20000 in
theorem ggL_law_X5_neighbours : GoodIn wsL_law wsX5_neighbours := goodIn_r _ [430, 146, 170, 171, 172, 5, 173, 121, 122, 123, 216, 217, 218, 278, 279, 280, 281, 86, 87, 332, 333, 334, 335, 120, 88, 336, 337, 338, 401, 402, 403, 404, 405, 406, 407, 408, 328, 329, 330, 331, 80, 81, 339, 340, 341, 342, 84, 343, 344, 345, 346, 82, 83, 174, 175, 176, 347, 348, 349, 409, 410, 411, 412, 634, 635, 636, 637, 638, 639, 640, 641, 642, 643, 644, 645, 646, 647, 648, 649, 650, 651, 652] (by decide +kernel) (by decide +kernel)
set_option maxRecDepth 20000 in
theorem gL_law_X5_neighbours : GoodIn wsL_law (wsV RL 68 RX5 yX5_neighbours wsX5_neighbours) := goodIn_app (goodIn_of _ (by decide +kernel)) ggL_law_X5_neighbours
set_option maxRecDepth 20000 in
theorem ggL_law_X4_mean : GoodIn wsL_law wsX4_mean := goodIn_r _ [434, 15, 193, 194, 2, 195, 435, 436, 437, 438, 439, 440, 441, 268, 269, 270, 14, 271, 33, 38, 247, 228, 229, 230, 39, 272, 273, 108, 109, 110, 111, 32, 31, 112, 113, 114, 115, 442, 443, 444, 445, 132, 354, 356, 357, 358, 359, 21, 360, 290, 291, 292, 20, 293, 46, 45, 294, 47, 48, 53, 295, 296, 297, 298, 299, 300, 301, 302, 49, 303, 304, 305, 51, 306, 58, 59, 307, 308, 60, 61, 309, 310, 311, 312, 313, 314, 315, 316, 317, 318, 319, 227, 446, 447, 448, 361, 362, 363, 364, 365, 366, 367, 368, 369, 629, 630, 631, 632, 633, 653, 654, 655, 656, 657, 658, 659, 660, 676, 677, 678, 679, 661, 662, 663, 664, 665, 666, 667] (by decide +kernel) (by decide +kernel)
set_option maxRecDepth 20000 in
theorem gL_law_X4_mean : GoodIn wsL_law (wsV RL 69 RX4 yX4_mean wsX4_mean) := goodIn_app (goodIn_of _ (by decide +kernel)) ggL_law_X4_mean
set_option maxRecDepth 20000 in
theorem ggL_law_X5_mean : GoodIn wsL_law wsX5_mean := goodIn_r _ [452, 216, 217, 5, 218, 121, 122, 123, 453, 454, 455, 456, 278, 279, 280, 281, 146, 86, 87, 124, 125, 126, 127, 80, 81, 332, 333, 334, 335, 120, 88, 336, 337, 338, 457, 458, 459, 460, 347, 348, 349, 374, 375, 376, 377, 328, 329, 330, 331, 339, 340, 341, 342, 84, 343, 344, 345, 346, 82, 83, 174, 175, 176, 382, 383, 384, 385, 386, 387, 634, 635, 636, 637, 638, 639, 640, 641, 642, 643, 644, 645, 646, 647, 648, 649, 650, 651, 652] (by decide +kernel) (by decide +kernel)
set_option maxRecDepth 20000 in
theorem gL_law_X5_mean : GoodIn wsL_law (wsV RL 72 RX5 yX5_mean wsX5_mean) := goodIn_app (goodIn_of _ (by decide +kernel)) ggL_law_X5_mean
set_option maxRecDepth 20000 in
theorem ggL_law_X4_total : GoodIn wsL_law wsX4_total := goodIn_r _ [464, 15, 190, 191, 2, 192, 193, 194, 195, 438, 439, 440, 441, 268, 269, 270, 14, 271, 33, 38, 247, 228, 229, 230, 39, 272, 273, 108, 109, 110, 111, 32, 31, 112, 113, 114, 115, 442, 443, 444, 445, 132, 354, 356, 357, 358, 359, 21, 360, 290, 291, 292, 20, 293, 46, 45, 294, 47, 48, 53, 295, 296, 297, 298, 299, 300, 301, 302, 49, 303, 304, 305, 51, 306, 58, 59, 307, 308, 60, 61, 309, 310, 311, 312, 313, 314, 315, 316, 317, 318, 319, 227, 446, 447, 448, 361, 362, 363, 364, 365, 366, 367, 368, 369, 629, 630, 631, 632, 633, 653, 654, 655, 656, 657, 658, 659, 660, 676, 677, 678, 679, 661, 662, 663, 664, 665, 666, 667] (by decide +kernel) (by decide +kernel)
set_option maxRecDepth 20000 in
theorem gL_law_X4_total : GoodIn wsL_law (wsV RL 73 RX4 yX4_total wsX4_total) := goodIn_app (goodIn_of _ (by decide +kernel)) ggL_law_X4_total
set_option maxRecDepth 20000 in
theorem ggL_law_X5_total : GoodIn wsL_law wsX5_total := goodIn_r _ [468, 216, 217, 5, 218, 121, 122, 123, 453, 454, 455, 456, 278, 279, 280, 281, 146, 86, 87, 124, 125, 126, 127, 80, 81, 332, 333, 334, 335, 120, 88, 336, 337, 338, 457, 458, 459, 460, 347, 348, 349, 374, 375, 376, 377, 328, 329, 330, 331, 339, 340, 341, 342, 84, 343, 344, 345, 346, 82, 83, 174, 175, 176, 382, 383, 384, 385, 386, 387, 634, 635, 636, 637, 638, 639, 640, 641, 642, 643, 644, 645, 646, 647, 648, 649, 650, 651, 652] (by decide +kernel) (by decide +kernel)
set_option maxRecDepth 20000 in
theorem gL_law_X5_total : GoodIn wsL_law (wsV RL 76 RX5 yX5_total wsX5_total) := goodIn_app (goodIn_of _ (by decide +kernel)) ggL_law_X5_total
set_option maxRecDepth 20000 in
theorem ggL_law_X4_spread : GoodIn wsL_law wsX4_spread := goodIn_r _ [472, 15, 21, 193, 194, 2, 195, 268, 269, 270, 14, 271, 33, 38, 247, 228, 229, 230, 39, 272, 273, 290, 291, 292, 20, 293, 46, 45, 294, 47, 48, 53, 295, 296, 297, 298, 299, 300, 301, 302, 49, 303, 304, 305, 51, 306, 58, 59, 307, 308, 60, 61, 309, 310, 311, 312, 313, 314, 315, 316, 317, 318, 319, 473, 474, 475, 476, 629, 630, 631, 632, 633, 653, 654, 655, 656, 657, 658, 659, 660, 661, 662, 663, 664, 665, 666, 667, 676, 677, 678, 679] (by decide +kernel) (by decide +kernel)
set_option maxRecDepth 20000 in
theorem gL_law_X4_spread : GoodIn wsL_law (wsV RL 77 RX4 yX4_spread wsX4_spread) := goodIn_app (goodIn_of _ (by decide +kernel)) ggL_law_X4_spread
set_option maxRecDepth 20000 in
theorem ggL_law_X5_spread : GoodIn wsL_law wsX5_spread := goodIn_r _ [480, 146, 216, 217, 5, 218, 121, 122, 123, 278, 279, 280, 281, 86, 87, 332, 333, 334, 335, 120, 88, 336, 337, 338, 378, 379, 380, 381, 328, 329, 330, 331, 80, 81, 339, 340, 341, 342, 84, 343, 344, 345, 346, 82, 83, 174, 175, 176, 347, 348, 349, 634, 635, 636, 637, 638, 639, 640, 641, 642, 643, 644, 645, 646, 647, 648, 649, 650, 651, 652] (by decide +kernel) (by decide +kernel)
set_option maxRecDepth 20000 in
theorem gL_law_X5_spread : GoodIn wsL_law (wsV RL 80 RX5 yX5_spread wsX5_spread) := goodIn_app (goodIn_of _ (by decide +kernel)) ggL_law_X5_spread
set_option maxRecDepth 20000 in
theorem ggL_law_X4_next : GoodIn wsL_law wsX4_next := goodIn_r _ [484, 25, 15, 485, 486, 487, 488, 193, 194, 2, 195, 268, 269, 270, 14, 271, 33, 38, 247, 228, 229, 230, 39, 272, 273, 489, 490, 491, 24, 492, 70, 71, 65, 66, 493, 494, 495, 304, 305, 51, 306, 58, 59, 307, 308, 60, 61, 309, 310, 311, 312, 313, 314, 315, 316, 317, 318, 319, 496, 497, 498, 499, 73, 500, 74, 501, 72, 502, 503, 504, 505, 506, 507, 139, 140, 141, 34, 35, 508, 509, 510, 511, 67, 68, 512, 513, 514, 515, 629, 630, 631, 632, 633, 668, 669, 670, 671, 672, 673, 674, 675, 653, 654, 655, 656, 657, 658, 659, 660, 676, 677, 678, 679] (by decide +kernel) (by decide +kernel)
set_option maxRecDepth 20000 in
theorem gL_law_X4_next : GoodIn wsL_law (wsV RL 81 RX4 yX4_next wsX4_next) := goodIn_app (goodIn_of _ (by decide +kernel)) ggL_law_X4_next
set_option maxRecDepth 20000 in
theorem ggL_law_X5_next : GoodIn wsL_law wsX5_next := goodIn_r _ [519, 216, 217, 5, 218, 121, 122, 123, 278, 279, 280, 281, 146, 86, 87, 328, 329, 330, 331, 80, 81, 150, 151, 152, 153, 82, 83, 520, 521, 522, 523, 84, 339, 340, 341, 342, 343, 344, 345, 346, 174, 175, 176, 347, 348, 349, 634, 635, 636, 637, 638, 639, 640, 641, 642, 643, 644, 645, 646, 647, 648, 649, 650, 651, 652] (by decide +kernel) (by decide +kernel)
set_option maxRecDepth 20000 in
theorem gL_law_X5_next : GoodIn wsL_law (wsV RL 84 RX5 yX5_next wsX5_next) := goodIn_app (goodIn_of _ (by decide +kernel)) ggL_law_X5_next
set_option maxRecDepth 20000 in
theorem ggL_law_X4_shared : GoodIn wsL_law wsX4_shared := goodIn_r _ [527, 15, 21, 158, 159, 160, 14, 161, 33, 193, 194, 2, 195, 268, 269, 270, 271, 38, 247, 228, 229, 230, 39, 272, 273, 528, 425, 426, 529, 290, 291, 292, 20, 293, 46, 45, 294, 47, 48, 53, 295, 296, 297, 298, 299, 300, 301, 302, 49, 303, 304, 305, 51, 306, 58, 59, 307, 308, 60, 61, 309, 310, 311, 312, 313, 314, 315, 316, 317, 318, 319, 530, 531, 532, 533, 629, 630, 631, 632, 633, 653, 654, 655, 656, 657, 658, 659, 660, 661, 662, 663, 664, 665, 666, 667, 676, 677, 678, 679] (by decide +kernel) (by decide +kernel)
set_option maxRecDepth 20000 in
theorem gL_law_X4_shared : GoodIn wsL_law (wsV RL 85 RX4 yX4_shared wsX4_shared) := goodIn_app (goodIn_of _ (by decide +kernel)) ggL_law_X4_shared
set_option maxRecDepth 20000 in
theorem ggL_law_X5_shared : GoodIn wsL_law wsX5_shared := goodIn_r _ [537, 170, 171, 172, 5, 173, 146, 121, 122, 123, 216, 217, 218, 278, 279, 280, 281, 86, 87, 538, 539, 540, 541, 542, 543, 544, 332, 333, 334, 335, 120, 88, 336, 337, 338, 347, 348, 349, 545, 546, 547, 548, 328, 329, 330, 331, 80, 81, 339, 340, 341, 342, 84, 343, 344, 345, 346, 82, 83, 174, 175, 176, 634, 635, 636, 637, 638, 639, 640, 641, 642, 643, 644, 645, 646, 647, 648, 649, 650, 651, 652] (by decide +kernel) (by decide +kernel)
set_option maxRecDepth 20000 in
theorem gL_law_X5_shared : GoodIn wsL_law (wsV RL 88 RX5 yX5_shared wsX5_shared) := goodIn_app (goodIn_of _ (by decide +kernel)) ggL_law_X5_shared
set_option maxRecDepth 20000 in
theorem ggL_law_X4_estimate : GoodIn wsL_law wsX4_estimate := goodIn_r _ [552, 15, 21, 354, 158, 159, 160, 14, 161, 33, 193, 194, 2, 195, 435, 436, 437, 268, 269, 270, 271, 38, 247, 228, 229, 230, 39, 272, 273, 528, 425, 426, 529, 290, 291, 292, 20, 293, 46, 45, 294, 47, 48, 53, 295, 296, 297, 298, 299, 300, 301, 302, 49, 303, 304, 305, 51, 306, 58, 59, 307, 308, 60, 61, 309, 310, 311, 312, 313, 314, 315, 316, 317, 318, 319, 553, 554, 555, 556, 557, 227, 446, 447, 448, 361, 362, 363, 364, 365, 366, 367, 368, 369, 629, 630, 631, 632, 633, 676, 677, 678, 679, 653, 654, 655, 656, 657, 658, 659, 660, 661, 662, 663, 664, 665, 666, 667] (by decide +kernel) (by decide +kernel)
set_option maxRecDepth 20000 in
theorem gL_law_X4_estimate : GoodIn wsL_law (wsV RL 89 RX4 yX4_estimate wsX4_estimate) := goodIn_app (goodIn_of _ (by decide +kernel)) ggL_law_X4_estimate
set_option maxRecDepth 20000 in
theorem ggL_law_X5_estimate : GoodIn wsL_law wsX5_estimate := goodIn_r _ [561, 170, 171, 172, 5, 173, 146, 121, 122, 123, 216, 217, 218, 278, 279, 280, 281, 86, 87, 538, 539, 540, 541, 542, 543, 544, 332, 333, 334, 335, 120, 88, 336, 337, 338, 374, 375, 376, 377, 328, 329, 330, 331, 80, 81, 339, 340, 341, 342, 84, 343, 344, 345, 346, 82, 83, 174, 175, 176, 347, 348, 349, 562, 563, 564, 565, 545, 546, 547, 548, 382, 383, 384, 385, 386, 387, 634, 635, 636, 637, 638, 639, 640, 641, 642, 643, 644, 645, 646, 647, 648, 649, 650, 651, 652] (by decide +kernel) (by decide +kernel)
set_option maxRecDepth 20000 in
theorem gL_law_X5_estimate : GoodIn wsL_law (wsV RL 92 RX5 yX5_estimate wsX5_estimate) := goodIn_app (goodIn_of _ (by decide +kernel)) ggL_law_X5_estimate
set_option maxRecDepth 20000 in
theorem ggL_law_X4_doubt : GoodIn wsL_law wsX4_doubt := goodIn_r _ [569, 15, 132, 193, 194, 2, 195, 268, 269, 270, 14, 271, 33, 38, 247, 228, 229, 230, 39, 272, 273, 570, 310, 311, 528, 425, 426, 571, 572, 573, 574, 21, 354, 575, 576, 505, 577, 529, 290, 291, 292, 20, 293, 46, 45, 294, 47, 48, 53, 295, 296, 297, 298, 299, 300, 301, 302, 49, 303, 304, 305, 51, 306, 58, 59, 307, 308, 60, 61, 309, 312, 313, 314, 315, 316, 317, 318, 319, 227, 553, 554, 555, 556, 557, 629, 630, 631, 632, 633, 653, 654, 655, 656, 657, 658, 659, 660, 676, 677, 678, 679, 661, 662, 663, 664, 665, 666, 667] (by decide +kernel) (by decide +kernel)
set_option maxRecDepth 20000 in
theorem gL_law_X4_doubt : GoodIn wsL_law (wsV RL 93 RX4 yX4_doubt wsX4_doubt) := goodIn_app (goodIn_of _ (by decide +kernel)) ggL_law_X4_doubt
set_option maxRecDepth 20000 in
theorem ggL_law_X5_doubt : GoodIn wsL_law wsX5_doubt := goodIn_r _ [581, 146, 87, 216, 217, 5, 218, 121, 122, 123, 278, 279, 280, 281, 86, 347, 348, 349, 538, 539, 540, 541, 542, 543, 544, 332, 333, 334, 335, 120, 88, 336, 337, 338, 374, 375, 376, 377, 328, 329, 330, 331, 80, 81, 339, 340, 341, 342, 84, 343, 344, 345, 346, 82, 83, 174, 175, 176, 562, 563, 564, 565, 545, 546, 547, 548, 634, 635, 636, 637, 638, 639, 640, 641, 642, 643, 644, 645, 646, 647, 648, 649, 650, 651, 652] (by decide +kernel) (by decide +kernel)
set_option maxRecDepth 20000 in
theorem gL_law_X5_doubt : GoodIn wsL_law (wsV RL 96 RX5 yX5_doubt wsX5_doubt) := goodIn_app (goodIn_of _ (by decide +kernel)) ggL_law_X5_doubt
set_option maxRecDepth 20000 in
theorem ggL_law_X4_kept : GoodIn wsL_law wsX4_kept := goodIn_r _ [585, 21, 586, 587, 588, 629, 630, 631, 632, 633, 661, 662, 663, 664, 665, 666, 667, 676, 677, 678, 679] (by decide +kernel) (by decide +kernel)
set_option maxRecDepth 20000 in
theorem gL_law_X4_kept : GoodIn wsL_law (wsV RL 97 RX4 yX4_kept wsX4_kept) := goodIn_app (goodIn_of _ (by decide +kernel)) ggL_law_X4_kept
set_option maxRecDepth 20000 in
theorem ggL_law_X5_kept : GoodIn wsL_law wsX5_kept := goodIn_r _ [592, 120, 88, 121, 122, 5, 123, 634, 635, 636, 637, 638, 639, 640, 641, 642, 643, 644, 645, 646, 647, 648, 649, 650, 651, 652] (by decide +kernel) (by decide +kernel)
set_option maxRecDepth 20000 in
theorem gL_law_X5_kept : GoodIn wsL_law (wsV RL 100 RX5 yX5_kept wsX5_kept) := goodIn_app (goodIn_of _ (by decide +kernel)) ggL_law_X5_kept
set_option maxRecDepth 20000 in
theorem ggL_law_X4_image : GoodIn wsL_law wsX4_image := goodIn_r _ [596, 16, 15, 17, 597, 598, 599, 14, 600, 31, 601, 602, 603, 604, 32, 33, 34, 35, 36, 38, 39, 529, 272, 2, 273, 629, 630, 631, 632, 633, 653, 654, 655, 656, 657, 658, 659, 660] (by decide +kernel) (by decide +kernel)
set_option maxRecDepth 20000 in
theorem gL_law_X4_image : GoodIn wsL_law (wsV RL 101 RX4 yX4_image wsX4_image) := goodIn_app (goodIn_of _ (by decide +kernel)) ggL_law_X4_image
set_option maxRecDepth 20000 in
theorem ggL_law_X5_image : GoodIn wsL_law wsX5_image := goodIn_r _ [608, 90, 80, 81, 92, 82, 83, 84, 93, 86, 94, 87, 91, 146, 89, 121, 122, 5, 123, 634, 635, 636, 637, 638, 639, 640, 641, 642, 643, 644, 645, 646, 647, 648, 649, 650, 651, 652] (by decide +kernel) (by decide +kernel)
set_option maxRecDepth 20000 in
theorem gL_law_X5_image : GoodIn wsL_law (wsV RL 104 RX5 yX5_image wsX5_image) := goodIn_app (goodIn_of _ (by decide +kernel)) ggL_law_X5_image
set_option maxRecDepth 20000 in
theorem ggL_law_X4_restore : GoodIn wsL_law wsX4_restore := goodIn_r _ [612, 17, 15, 16, 21, 570, 310, 2, 311, 597, 598, 599, 14, 600, 31, 601, 602, 603, 604, 32, 33, 34, 35, 36, 38, 39, 104, 105, 106, 20, 107, 46, 629, 630, 631, 632, 633, 653, 654, 655, 656, 657, 658, 659, 660, 661, 662, 663, 664, 665, 666, 667] (by decide +kernel) (by decide +kernel)
set_option maxRecDepth 20000 in
theorem gL_law_X4_restore : GoodIn wsL_law (wsV RL 105 RX4 yX4_restore wsX4_restore) := goodIn_app (goodIn_of _ (by decide +kernel)) ggL_law_X4_restore
set_option maxRecDepth 20000 in
theorem ggL_law_X5_restore : GoodIn wsL_law wsX5_restore := goodIn_r _ [616, 89, 80, 90, 81, 82, 92, 83, 84, 86, 93, 87, 94, 91, 146, 120, 121, 122, 5, 123, 634, 635, 636, 637, 638, 639, 640, 641, 642, 643, 644, 645, 646, 647, 648, 649, 650, 651, 652] (by decide +kernel) (by decide +kernel)
set_option maxRecDepth 20000 in
theorem gL_law_X5_restore : GoodIn wsL_law (wsV RL 108 RX5 yX5_restore wsX5_restore) := goodIn_app (goodIn_of _ (by decide +kernel)) ggL_law_X5_restore
set_option maxRecDepth 20000 in
theorem ggL_law_X4_count : GoodIn wsL_law wsX4_count := goodIn_r _ [620, 15, 99, 100, 132, 21, 586, 621, 622, 623, 17, 624, 113, 114, 14, 115, 31, 32, 108, 109, 110, 111, 112, 629, 630, 631, 632, 633, 653, 654, 655, 656, 657, 658, 659, 660, 661, 662, 663, 664, 665, 666, 667] (by decide +kernel) (by decide +kernel)
set_option maxRecDepth 20000 in
theorem gL_law_X4_count : GoodIn wsL_law (wsV RL 109 RX4 yX4_count wsX4_count) := goodIn_app (goodIn_of _ (by decide +kernel)) ggL_law_X4_count
set_option maxRecDepth 20000 in
theorem ggL_law_X5_count : GoodIn wsL_law wsX5_count := goodIn_r _ [628, 146, 120, 336, 337, 338, 89, 80, 81, 124, 125, 126, 5, 127, 121, 122, 123, 634, 635, 636, 637, 638, 639, 640, 641, 642, 643, 644, 645, 646, 647, 648, 649, 650, 651, 652] (by decide +kernel) (by decide +kernel)
set_option maxRecDepth 20000 in
theorem gL_law_X5_count : GoodIn wsL_law (wsV RL 112 RX5 yX5_count wsX5_count) := goodIn_app (goodIn_of _ (by decide +kernel)) ggL_law_X5_count
theorem dL_law_0 : decode cL_law 0 = .ok (.new 7, 3) := by decide +kernel
theorem dL_law_3 : decode cL_law 3 = .ok (.dup, 1) := by decide +kernel
theorem dL_law_4 : decode cL_law 4 = .ok (.invokespecial 9, 3) := by decide +kernel
theorem dL_law_7 : decode cL_law 7 = .ok (.astore_n 1, 1) := by decide +kernel
theorem dL_law_8 : decode cL_law 8 = .ok (.new 10, 3) := by decide +kernel
theorem dL_law_11 : decode cL_law 11 = .ok (.dup, 1) := by decide +kernel
theorem dL_law_12 : decode cL_law 12 = .ok (.invokespecial 12, 3) := by decide +kernel
theorem dL_law_15 : decode cL_law 15 = .ok (.astore_n 2, 1) := by decide +kernel
theorem dL_law_16 : decode cL_law 16 = .ok (.iconst 0, 1) := by decide +kernel
theorem dL_law_17 : decode cL_law 17 = .ok (.istore_n 3, 1) := by decide +kernel
theorem dL_law_18 : decode cL_law 18 = .ok (.iload_n 3, 1) := by decide +kernel
theorem dL_law_19 : decode cL_law 19 = .ok (.aload_n 0, 1) := by decide +kernel
theorem dL_law_20 : decode cL_law 20 = .ok (.arraylength, 1) := by decide +kernel
theorem dL_law_21 : decode cL_law 21 = .ok (.iconst 5, 1) := by decide +kernel
theorem dL_law_22 : decode cL_law 22 = .ok (.isub, 1) := by decide +kernel
theorem dL_law_23 : decode cL_law 23 = .ok (.if_icmp .gt 969, 3) := by decide +kernel
theorem dL_law_26 : decode cL_law 26 = .ok (.aload_n 0, 1) := by decide +kernel
theorem dL_law_27 : decode cL_law 27 = .ok (.iload_n 3, 1) := by decide +kernel
theorem dL_law_28 : decode cL_law 28 = .ok (.iaload, 1) := by decide +kernel
theorem dL_law_29 : decode cL_law 29 = .ok (.bipush 31, 2) := by decide +kernel
theorem dL_law_31 : decode cL_law 31 = .ok (.iand, 1) := by decide +kernel
theorem dL_law_32 : decode cL_law 32 = .ok (.tableswitch 954 0 23 #[112, 155, 188, 231, 264, 317, 360, 393, 426, 449, 492, 535, 578, 611, 644, 687, 710, 743, 786, 829, 862, 885, 908, 931], 112) := by decide +kernel
theorem dL_law_144 : decode cL_law 144 = .ok (.aload_n 1, 1) := by decide +kernel
theorem dL_law_145 : decode cL_law 145 = .ok (.aload_n 0, 1) := by decide +kernel
theorem dL_law_146 : decode cL_law 146 = .ok (.iload_n 3, 1) := by decide +kernel
theorem dL_law_147 : decode cL_law 147 = .ok (.iconst 1, 1) := by decide +kernel
theorem dL_law_148 : decode cL_law 148 = .ok (.iadd, 1) := by decide +kernel
theorem dL_law_149 : decode cL_law 149 = .ok (.iaload, 1) := by decide +kernel
theorem dL_law_150 : decode cL_law 150 = .ok (.aload_n 0, 1) := by decide +kernel
theorem dL_law_151 : decode cL_law 151 = .ok (.iload_n 3, 1) := by decide +kernel
theorem dL_law_152 : decode cL_law 152 = .ok (.iconst 2, 1) := by decide +kernel
theorem dL_law_153 : decode cL_law 153 = .ok (.iadd, 1) := by decide +kernel
theorem dL_law_154 : decode cL_law 154 = .ok (.iaload, 1) := by decide +kernel
theorem dL_law_155 : decode cL_law 155 = .ok (.aload_n 0, 1) := by decide +kernel
theorem dL_law_156 : decode cL_law 156 = .ok (.iload_n 3, 1) := by decide +kernel
theorem dL_law_157 : decode cL_law 157 = .ok (.iconst 3, 1) := by decide +kernel
theorem dL_law_158 : decode cL_law 158 = .ok (.iadd, 1) := by decide +kernel
theorem dL_law_159 : decode cL_law 159 = .ok (.iaload, 1) := by decide +kernel
theorem dL_law_160 : decode cL_law 160 = .ok (.invokevirtual 13, 3) := by decide +kernel
theorem dL_law_163 : decode cL_law 163 = .ok (.aload_n 2, 1) := by decide +kernel
theorem dL_law_164 : decode cL_law 164 = .ok (.aload_n 0, 1) := by decide +kernel
theorem dL_law_165 : decode cL_law 165 = .ok (.iload_n 3, 1) := by decide +kernel
theorem dL_law_166 : decode cL_law 166 = .ok (.iconst 1, 1) := by decide +kernel
theorem dL_law_167 : decode cL_law 167 = .ok (.iadd, 1) := by decide +kernel
theorem dL_law_168 : decode cL_law 168 = .ok (.iaload, 1) := by decide +kernel
theorem dL_law_169 : decode cL_law 169 = .ok (.aload_n 0, 1) := by decide +kernel
theorem dL_law_170 : decode cL_law 170 = .ok (.iload_n 3, 1) := by decide +kernel
theorem dL_law_171 : decode cL_law 171 = .ok (.iconst 2, 1) := by decide +kernel
theorem dL_law_172 : decode cL_law 172 = .ok (.iadd, 1) := by decide +kernel
theorem dL_law_173 : decode cL_law 173 = .ok (.iaload, 1) := by decide +kernel
theorem dL_law_174 : decode cL_law 174 = .ok (.aload_n 0, 1) := by decide +kernel
theorem dL_law_175 : decode cL_law 175 = .ok (.iload_n 3, 1) := by decide +kernel
theorem dL_law_176 : decode cL_law 176 = .ok (.iconst 3, 1) := by decide +kernel
theorem dL_law_177 : decode cL_law 177 = .ok (.iadd, 1) := by decide +kernel
theorem dL_law_178 : decode cL_law 178 = .ok (.iaload, 1) := by decide +kernel
theorem dL_law_179 : decode cL_law 179 = .ok (.invokevirtual 17, 3) := by decide +kernel
theorem dL_law_182 : decode cL_law 182 = .ok (.if_icmp .eq 804, 3) := by decide +kernel
theorem dL_law_185 : decode cL_law 185 = .ok (.iconst 0, 1) := by decide +kernel
theorem dL_law_186 : decode cL_law 186 = .ok (.ireturn, 1) := by decide +kernel
theorem dL_law_187 : decode cL_law 187 = .ok (.aload_n 1, 1) := by decide +kernel
theorem dL_law_188 : decode cL_law 188 = .ok (.aload_n 0, 1) := by decide +kernel
theorem dL_law_189 : decode cL_law 189 = .ok (.iload_n 3, 1) := by decide +kernel
theorem dL_law_190 : decode cL_law 190 = .ok (.iconst 1, 1) := by decide +kernel
theorem dL_law_191 : decode cL_law 191 = .ok (.iadd, 1) := by decide +kernel
theorem dL_law_192 : decode cL_law 192 = .ok (.iaload, 1) := by decide +kernel
theorem dL_law_193 : decode cL_law 193 = .ok (.aload_n 0, 1) := by decide +kernel
theorem dL_law_194 : decode cL_law 194 = .ok (.iload_n 3, 1) := by decide +kernel
theorem dL_law_195 : decode cL_law 195 = .ok (.iconst 2, 1) := by decide +kernel
theorem dL_law_196 : decode cL_law 196 = .ok (.iadd, 1) := by decide +kernel
theorem dL_law_197 : decode cL_law 197 = .ok (.iaload, 1) := by decide +kernel
theorem dL_law_198 : decode cL_law 198 = .ok (.invokevirtual 18, 3) := by decide +kernel
theorem dL_law_201 : decode cL_law 201 = .ok (.aload_n 2, 1) := by decide +kernel
theorem dL_law_202 : decode cL_law 202 = .ok (.aload_n 0, 1) := by decide +kernel
theorem dL_law_203 : decode cL_law 203 = .ok (.iload_n 3, 1) := by decide +kernel
theorem dL_law_204 : decode cL_law 204 = .ok (.iconst 1, 1) := by decide +kernel
theorem dL_law_205 : decode cL_law 205 = .ok (.iadd, 1) := by decide +kernel
theorem dL_law_206 : decode cL_law 206 = .ok (.iaload, 1) := by decide +kernel
theorem dL_law_207 : decode cL_law 207 = .ok (.aload_n 0, 1) := by decide +kernel
theorem dL_law_208 : decode cL_law 208 = .ok (.iload_n 3, 1) := by decide +kernel
theorem dL_law_209 : decode cL_law 209 = .ok (.iconst 2, 1) := by decide +kernel
theorem dL_law_210 : decode cL_law 210 = .ok (.iadd, 1) := by decide +kernel
theorem dL_law_211 : decode cL_law 211 = .ok (.iaload, 1) := by decide +kernel
theorem dL_law_212 : decode cL_law 212 = .ok (.invokevirtual 22, 3) := by decide +kernel
theorem dL_law_215 : decode cL_law 215 = .ok (.if_icmp .eq 771, 3) := by decide +kernel
theorem dL_law_218 : decode cL_law 218 = .ok (.iconst 0, 1) := by decide +kernel
theorem dL_law_219 : decode cL_law 219 = .ok (.ireturn, 1) := by decide +kernel
theorem dL_law_220 : decode cL_law 220 = .ok (.aload_n 1, 1) := by decide +kernel
theorem dL_law_221 : decode cL_law 221 = .ok (.aload_n 0, 1) := by decide +kernel
theorem dL_law_222 : decode cL_law 222 = .ok (.iload_n 3, 1) := by decide +kernel
theorem dL_law_223 : decode cL_law 223 = .ok (.iconst 1, 1) := by decide +kernel
theorem dL_law_224 : decode cL_law 224 = .ok (.iadd, 1) := by decide +kernel
theorem dL_law_225 : decode cL_law 225 = .ok (.iaload, 1) := by decide +kernel
theorem dL_law_226 : decode cL_law 226 = .ok (.aload_n 0, 1) := by decide +kernel
theorem dL_law_227 : decode cL_law 227 = .ok (.iload_n 3, 1) := by decide +kernel
theorem dL_law_228 : decode cL_law 228 = .ok (.iconst 2, 1) := by decide +kernel
theorem dL_law_229 : decode cL_law 229 = .ok (.iadd, 1) := by decide +kernel
theorem dL_law_230 : decode cL_law 230 = .ok (.iaload, 1) := by decide +kernel
theorem dL_law_231 : decode cL_law 231 = .ok (.aload_n 0, 1) := by decide +kernel
theorem dL_law_232 : decode cL_law 232 = .ok (.iload_n 3, 1) := by decide +kernel
theorem dL_law_233 : decode cL_law 233 = .ok (.iconst 3, 1) := by decide +kernel
theorem dL_law_234 : decode cL_law 234 = .ok (.iadd, 1) := by decide +kernel
theorem dL_law_235 : decode cL_law 235 = .ok (.iaload, 1) := by decide +kernel
theorem dL_law_236 : decode cL_law 236 = .ok (.invokevirtual 23, 3) := by decide +kernel
theorem dL_law_239 : decode cL_law 239 = .ok (.aload_n 2, 1) := by decide +kernel
theorem dL_law_240 : decode cL_law 240 = .ok (.aload_n 0, 1) := by decide +kernel
theorem dL_law_241 : decode cL_law 241 = .ok (.iload_n 3, 1) := by decide +kernel
theorem dL_law_242 : decode cL_law 242 = .ok (.iconst 1, 1) := by decide +kernel
theorem dL_law_243 : decode cL_law 243 = .ok (.iadd, 1) := by decide +kernel
theorem dL_law_244 : decode cL_law 244 = .ok (.iaload, 1) := by decide +kernel
theorem dL_law_245 : decode cL_law 245 = .ok (.aload_n 0, 1) := by decide +kernel
theorem dL_law_246 : decode cL_law 246 = .ok (.iload_n 3, 1) := by decide +kernel
theorem dL_law_247 : decode cL_law 247 = .ok (.iconst 2, 1) := by decide +kernel
theorem dL_law_248 : decode cL_law 248 = .ok (.iadd, 1) := by decide +kernel
theorem dL_law_249 : decode cL_law 249 = .ok (.iaload, 1) := by decide +kernel
theorem dL_law_250 : decode cL_law 250 = .ok (.aload_n 0, 1) := by decide +kernel
theorem dL_law_251 : decode cL_law 251 = .ok (.iload_n 3, 1) := by decide +kernel
theorem dL_law_252 : decode cL_law 252 = .ok (.iconst 3, 1) := by decide +kernel
theorem dL_law_253 : decode cL_law 253 = .ok (.iadd, 1) := by decide +kernel
theorem dL_law_254 : decode cL_law 254 = .ok (.iaload, 1) := by decide +kernel
theorem dL_law_255 : decode cL_law 255 = .ok (.invokevirtual 26, 3) := by decide +kernel
theorem dL_law_258 : decode cL_law 258 = .ok (.if_icmp .eq 728, 3) := by decide +kernel
theorem dL_law_261 : decode cL_law 261 = .ok (.iconst 0, 1) := by decide +kernel
theorem dL_law_262 : decode cL_law 262 = .ok (.ireturn, 1) := by decide +kernel
theorem dL_law_263 : decode cL_law 263 = .ok (.aload_n 1, 1) := by decide +kernel
theorem dL_law_264 : decode cL_law 264 = .ok (.aload_n 0, 1) := by decide +kernel
theorem dL_law_265 : decode cL_law 265 = .ok (.iload_n 3, 1) := by decide +kernel
theorem dL_law_266 : decode cL_law 266 = .ok (.iconst 1, 1) := by decide +kernel
theorem dL_law_267 : decode cL_law 267 = .ok (.iadd, 1) := by decide +kernel
theorem dL_law_268 : decode cL_law 268 = .ok (.iaload, 1) := by decide +kernel
theorem dL_law_269 : decode cL_law 269 = .ok (.aload_n 0, 1) := by decide +kernel
theorem dL_law_270 : decode cL_law 270 = .ok (.iload_n 3, 1) := by decide +kernel
theorem dL_law_271 : decode cL_law 271 = .ok (.iconst 2, 1) := by decide +kernel
theorem dL_law_272 : decode cL_law 272 = .ok (.iadd, 1) := by decide +kernel
theorem dL_law_273 : decode cL_law 273 = .ok (.iaload, 1) := by decide +kernel
theorem dL_law_274 : decode cL_law 274 = .ok (.invokevirtual 27, 3) := by decide +kernel
theorem dL_law_277 : decode cL_law 277 = .ok (.aload_n 2, 1) := by decide +kernel
theorem dL_law_278 : decode cL_law 278 = .ok (.aload_n 0, 1) := by decide +kernel
theorem dL_law_279 : decode cL_law 279 = .ok (.iload_n 3, 1) := by decide +kernel
theorem dL_law_280 : decode cL_law 280 = .ok (.iconst 1, 1) := by decide +kernel
theorem dL_law_281 : decode cL_law 281 = .ok (.iadd, 1) := by decide +kernel
theorem dL_law_282 : decode cL_law 282 = .ok (.iaload, 1) := by decide +kernel
theorem dL_law_283 : decode cL_law 283 = .ok (.aload_n 0, 1) := by decide +kernel
theorem dL_law_284 : decode cL_law 284 = .ok (.iload_n 3, 1) := by decide +kernel
theorem dL_law_285 : decode cL_law 285 = .ok (.iconst 2, 1) := by decide +kernel
theorem dL_law_286 : decode cL_law 286 = .ok (.iadd, 1) := by decide +kernel
theorem dL_law_287 : decode cL_law 287 = .ok (.iaload, 1) := by decide +kernel
theorem dL_law_288 : decode cL_law 288 = .ok (.invokevirtual 30, 3) := by decide +kernel
theorem dL_law_291 : decode cL_law 291 = .ok (.if_icmp .eq 695, 3) := by decide +kernel
theorem dL_law_294 : decode cL_law 294 = .ok (.iconst 0, 1) := by decide +kernel
theorem dL_law_295 : decode cL_law 295 = .ok (.ireturn, 1) := by decide +kernel
theorem dL_law_296 : decode cL_law 296 = .ok (.aload_n 1, 1) := by decide +kernel
theorem dL_law_297 : decode cL_law 297 = .ok (.aload_n 0, 1) := by decide +kernel
theorem dL_law_298 : decode cL_law 298 = .ok (.iload_n 3, 1) := by decide +kernel
theorem dL_law_299 : decode cL_law 299 = .ok (.iconst 1, 1) := by decide +kernel
theorem dL_law_300 : decode cL_law 300 = .ok (.iadd, 1) := by decide +kernel
theorem dL_law_301 : decode cL_law 301 = .ok (.iaload, 1) := by decide +kernel
theorem dL_law_302 : decode cL_law 302 = .ok (.aload_n 0, 1) := by decide +kernel
theorem dL_law_303 : decode cL_law 303 = .ok (.iload_n 3, 1) := by decide +kernel
theorem dL_law_304 : decode cL_law 304 = .ok (.iconst 2, 1) := by decide +kernel
theorem dL_law_305 : decode cL_law 305 = .ok (.iadd, 1) := by decide +kernel
theorem dL_law_306 : decode cL_law 306 = .ok (.iaload, 1) := by decide +kernel
theorem dL_law_307 : decode cL_law 307 = .ok (.aload_n 0, 1) := by decide +kernel
theorem dL_law_308 : decode cL_law 308 = .ok (.iload_n 3, 1) := by decide +kernel
theorem dL_law_309 : decode cL_law 309 = .ok (.iconst 3, 1) := by decide +kernel
theorem dL_law_310 : decode cL_law 310 = .ok (.iadd, 1) := by decide +kernel
theorem dL_law_311 : decode cL_law 311 = .ok (.iaload, 1) := by decide +kernel
theorem dL_law_312 : decode cL_law 312 = .ok (.aload_n 0, 1) := by decide +kernel
theorem dL_law_313 : decode cL_law 313 = .ok (.iload_n 3, 1) := by decide +kernel
theorem dL_law_314 : decode cL_law 314 = .ok (.iconst 4, 1) := by decide +kernel
theorem dL_law_315 : decode cL_law 315 = .ok (.iadd, 1) := by decide +kernel
theorem dL_law_316 : decode cL_law 316 = .ok (.iaload, 1) := by decide +kernel
theorem dL_law_317 : decode cL_law 317 = .ok (.invokevirtual 31, 3) := by decide +kernel
theorem dL_law_320 : decode cL_law 320 = .ok (.aload_n 2, 1) := by decide +kernel
theorem dL_law_321 : decode cL_law 321 = .ok (.aload_n 0, 1) := by decide +kernel
theorem dL_law_322 : decode cL_law 322 = .ok (.iload_n 3, 1) := by decide +kernel
theorem dL_law_323 : decode cL_law 323 = .ok (.iconst 1, 1) := by decide +kernel
theorem dL_law_324 : decode cL_law 324 = .ok (.iadd, 1) := by decide +kernel
theorem dL_law_325 : decode cL_law 325 = .ok (.iaload, 1) := by decide +kernel
theorem dL_law_326 : decode cL_law 326 = .ok (.aload_n 0, 1) := by decide +kernel
theorem dL_law_327 : decode cL_law 327 = .ok (.iload_n 3, 1) := by decide +kernel
theorem dL_law_328 : decode cL_law 328 = .ok (.iconst 2, 1) := by decide +kernel
theorem dL_law_329 : decode cL_law 329 = .ok (.iadd, 1) := by decide +kernel
theorem dL_law_330 : decode cL_law 330 = .ok (.iaload, 1) := by decide +kernel
theorem dL_law_331 : decode cL_law 331 = .ok (.aload_n 0, 1) := by decide +kernel
theorem dL_law_332 : decode cL_law 332 = .ok (.iload_n 3, 1) := by decide +kernel
theorem dL_law_333 : decode cL_law 333 = .ok (.iconst 3, 1) := by decide +kernel
theorem dL_law_334 : decode cL_law 334 = .ok (.iadd, 1) := by decide +kernel
theorem dL_law_335 : decode cL_law 335 = .ok (.iaload, 1) := by decide +kernel
theorem dL_law_336 : decode cL_law 336 = .ok (.aload_n 0, 1) := by decide +kernel
theorem dL_law_337 : decode cL_law 337 = .ok (.iload_n 3, 1) := by decide +kernel
theorem dL_law_338 : decode cL_law 338 = .ok (.iconst 4, 1) := by decide +kernel
theorem dL_law_339 : decode cL_law 339 = .ok (.iadd, 1) := by decide +kernel
theorem dL_law_340 : decode cL_law 340 = .ok (.iaload, 1) := by decide +kernel
theorem dL_law_341 : decode cL_law 341 = .ok (.invokevirtual 35, 3) := by decide +kernel
theorem dL_law_344 : decode cL_law 344 = .ok (.if_icmp .eq 642, 3) := by decide +kernel
theorem dL_law_347 : decode cL_law 347 = .ok (.iconst 0, 1) := by decide +kernel
theorem dL_law_348 : decode cL_law 348 = .ok (.ireturn, 1) := by decide +kernel
theorem dL_law_349 : decode cL_law 349 = .ok (.aload_n 1, 1) := by decide +kernel
theorem dL_law_350 : decode cL_law 350 = .ok (.aload_n 0, 1) := by decide +kernel
theorem dL_law_351 : decode cL_law 351 = .ok (.iload_n 3, 1) := by decide +kernel
theorem dL_law_352 : decode cL_law 352 = .ok (.iconst 1, 1) := by decide +kernel
theorem dL_law_353 : decode cL_law 353 = .ok (.iadd, 1) := by decide +kernel
theorem dL_law_354 : decode cL_law 354 = .ok (.iaload, 1) := by decide +kernel
theorem dL_law_355 : decode cL_law 355 = .ok (.aload_n 0, 1) := by decide +kernel
theorem dL_law_356 : decode cL_law 356 = .ok (.iload_n 3, 1) := by decide +kernel
theorem dL_law_357 : decode cL_law 357 = .ok (.iconst 2, 1) := by decide +kernel
theorem dL_law_358 : decode cL_law 358 = .ok (.iadd, 1) := by decide +kernel
theorem dL_law_359 : decode cL_law 359 = .ok (.iaload, 1) := by decide +kernel
theorem dL_law_360 : decode cL_law 360 = .ok (.aload_n 0, 1) := by decide +kernel
theorem dL_law_361 : decode cL_law 361 = .ok (.iload_n 3, 1) := by decide +kernel
theorem dL_law_362 : decode cL_law 362 = .ok (.iconst 3, 1) := by decide +kernel
theorem dL_law_363 : decode cL_law 363 = .ok (.iadd, 1) := by decide +kernel
theorem dL_law_364 : decode cL_law 364 = .ok (.iaload, 1) := by decide +kernel
theorem dL_law_365 : decode cL_law 365 = .ok (.invokevirtual 36, 3) := by decide +kernel
theorem dL_law_368 : decode cL_law 368 = .ok (.aload_n 2, 1) := by decide +kernel
theorem dL_law_369 : decode cL_law 369 = .ok (.aload_n 0, 1) := by decide +kernel
theorem dL_law_370 : decode cL_law 370 = .ok (.iload_n 3, 1) := by decide +kernel
theorem dL_law_371 : decode cL_law 371 = .ok (.iconst 1, 1) := by decide +kernel
theorem dL_law_372 : decode cL_law 372 = .ok (.iadd, 1) := by decide +kernel
theorem dL_law_373 : decode cL_law 373 = .ok (.iaload, 1) := by decide +kernel
theorem dL_law_374 : decode cL_law 374 = .ok (.aload_n 0, 1) := by decide +kernel
theorem dL_law_375 : decode cL_law 375 = .ok (.iload_n 3, 1) := by decide +kernel
theorem dL_law_376 : decode cL_law 376 = .ok (.iconst 2, 1) := by decide +kernel
theorem dL_law_377 : decode cL_law 377 = .ok (.iadd, 1) := by decide +kernel
theorem dL_law_378 : decode cL_law 378 = .ok (.iaload, 1) := by decide +kernel
theorem dL_law_379 : decode cL_law 379 = .ok (.aload_n 0, 1) := by decide +kernel
theorem dL_law_380 : decode cL_law 380 = .ok (.iload_n 3, 1) := by decide +kernel
theorem dL_law_381 : decode cL_law 381 = .ok (.iconst 3, 1) := by decide +kernel
theorem dL_law_382 : decode cL_law 382 = .ok (.iadd, 1) := by decide +kernel
theorem dL_law_383 : decode cL_law 383 = .ok (.iaload, 1) := by decide +kernel
theorem dL_law_384 : decode cL_law 384 = .ok (.invokevirtual 39, 3) := by decide +kernel
theorem dL_law_387 : decode cL_law 387 = .ok (.if_icmp .eq 599, 3) := by decide +kernel
theorem dL_law_390 : decode cL_law 390 = .ok (.iconst 0, 1) := by decide +kernel
theorem dL_law_391 : decode cL_law 391 = .ok (.ireturn, 1) := by decide +kernel
theorem dL_law_392 : decode cL_law 392 = .ok (.aload_n 1, 1) := by decide +kernel
theorem dL_law_393 : decode cL_law 393 = .ok (.aload_n 0, 1) := by decide +kernel
theorem dL_law_394 : decode cL_law 394 = .ok (.iload_n 3, 1) := by decide +kernel
theorem dL_law_395 : decode cL_law 395 = .ok (.iconst 1, 1) := by decide +kernel
theorem dL_law_396 : decode cL_law 396 = .ok (.iadd, 1) := by decide +kernel
theorem dL_law_397 : decode cL_law 397 = .ok (.iaload, 1) := by decide +kernel
theorem dL_law_398 : decode cL_law 398 = .ok (.aload_n 0, 1) := by decide +kernel
theorem dL_law_399 : decode cL_law 399 = .ok (.iload_n 3, 1) := by decide +kernel
theorem dL_law_400 : decode cL_law 400 = .ok (.iconst 2, 1) := by decide +kernel
theorem dL_law_401 : decode cL_law 401 = .ok (.iadd, 1) := by decide +kernel
theorem dL_law_402 : decode cL_law 402 = .ok (.iaload, 1) := by decide +kernel
theorem dL_law_403 : decode cL_law 403 = .ok (.invokevirtual 40, 3) := by decide +kernel
theorem dL_law_406 : decode cL_law 406 = .ok (.aload_n 2, 1) := by decide +kernel
theorem dL_law_407 : decode cL_law 407 = .ok (.aload_n 0, 1) := by decide +kernel
theorem dL_law_408 : decode cL_law 408 = .ok (.iload_n 3, 1) := by decide +kernel
theorem dL_law_409 : decode cL_law 409 = .ok (.iconst 1, 1) := by decide +kernel
theorem dL_law_410 : decode cL_law 410 = .ok (.iadd, 1) := by decide +kernel
theorem dL_law_411 : decode cL_law 411 = .ok (.iaload, 1) := by decide +kernel
theorem dL_law_412 : decode cL_law 412 = .ok (.aload_n 0, 1) := by decide +kernel
theorem dL_law_413 : decode cL_law 413 = .ok (.iload_n 3, 1) := by decide +kernel
theorem dL_law_414 : decode cL_law 414 = .ok (.iconst 2, 1) := by decide +kernel
theorem dL_law_415 : decode cL_law 415 = .ok (.iadd, 1) := by decide +kernel
theorem dL_law_416 : decode cL_law 416 = .ok (.iaload, 1) := by decide +kernel
theorem dL_law_417 : decode cL_law 417 = .ok (.invokevirtual 43, 3) := by decide +kernel
theorem dL_law_420 : decode cL_law 420 = .ok (.if_icmp .eq 566, 3) := by decide +kernel
theorem dL_law_423 : decode cL_law 423 = .ok (.iconst 0, 1) := by decide +kernel
theorem dL_law_424 : decode cL_law 424 = .ok (.ireturn, 1) := by decide +kernel
theorem dL_law_425 : decode cL_law 425 = .ok (.aload_n 1, 1) := by decide +kernel
theorem dL_law_426 : decode cL_law 426 = .ok (.aload_n 0, 1) := by decide +kernel
theorem dL_law_427 : decode cL_law 427 = .ok (.iload_n 3, 1) := by decide +kernel
theorem dL_law_428 : decode cL_law 428 = .ok (.iconst 1, 1) := by decide +kernel
theorem dL_law_429 : decode cL_law 429 = .ok (.iadd, 1) := by decide +kernel
theorem dL_law_430 : decode cL_law 430 = .ok (.iaload, 1) := by decide +kernel
theorem dL_law_431 : decode cL_law 431 = .ok (.aload_n 0, 1) := by decide +kernel
theorem dL_law_432 : decode cL_law 432 = .ok (.iload_n 3, 1) := by decide +kernel
theorem dL_law_433 : decode cL_law 433 = .ok (.iconst 2, 1) := by decide +kernel
theorem dL_law_434 : decode cL_law 434 = .ok (.iadd, 1) := by decide +kernel
theorem dL_law_435 : decode cL_law 435 = .ok (.iaload, 1) := by decide +kernel
theorem dL_law_436 : decode cL_law 436 = .ok (.invokevirtual 44, 3) := by decide +kernel
theorem dL_law_439 : decode cL_law 439 = .ok (.aload_n 2, 1) := by decide +kernel
theorem dL_law_440 : decode cL_law 440 = .ok (.aload_n 0, 1) := by decide +kernel
theorem dL_law_441 : decode cL_law 441 = .ok (.iload_n 3, 1) := by decide +kernel
theorem dL_law_442 : decode cL_law 442 = .ok (.iconst 1, 1) := by decide +kernel
theorem dL_law_443 : decode cL_law 443 = .ok (.iadd, 1) := by decide +kernel
theorem dL_law_444 : decode cL_law 444 = .ok (.iaload, 1) := by decide +kernel
theorem dL_law_445 : decode cL_law 445 = .ok (.aload_n 0, 1) := by decide +kernel
theorem dL_law_446 : decode cL_law 446 = .ok (.iload_n 3, 1) := by decide +kernel
theorem dL_law_447 : decode cL_law 447 = .ok (.iconst 2, 1) := by decide +kernel
theorem dL_law_448 : decode cL_law 448 = .ok (.iadd, 1) := by decide +kernel
theorem dL_law_449 : decode cL_law 449 = .ok (.iaload, 1) := by decide +kernel
theorem dL_law_450 : decode cL_law 450 = .ok (.invokevirtual 47, 3) := by decide +kernel
theorem dL_law_453 : decode cL_law 453 = .ok (.if_icmp .eq 533, 3) := by decide +kernel
theorem dL_law_456 : decode cL_law 456 = .ok (.iconst 0, 1) := by decide +kernel
theorem dL_law_457 : decode cL_law 457 = .ok (.ireturn, 1) := by decide +kernel
theorem dL_law_458 : decode cL_law 458 = .ok (.aload_n 1, 1) := by decide +kernel
theorem dL_law_459 : decode cL_law 459 = .ok (.aload_n 0, 1) := by decide +kernel
theorem dL_law_460 : decode cL_law 460 = .ok (.iload_n 3, 1) := by decide +kernel
theorem dL_law_461 : decode cL_law 461 = .ok (.iconst 1, 1) := by decide +kernel
theorem dL_law_462 : decode cL_law 462 = .ok (.iadd, 1) := by decide +kernel
theorem dL_law_463 : decode cL_law 463 = .ok (.iaload, 1) := by decide +kernel
theorem dL_law_464 : decode cL_law 464 = .ok (.invokevirtual 48, 3) := by decide +kernel
theorem dL_law_467 : decode cL_law 467 = .ok (.aload_n 2, 1) := by decide +kernel
theorem dL_law_468 : decode cL_law 468 = .ok (.aload_n 0, 1) := by decide +kernel
theorem dL_law_469 : decode cL_law 469 = .ok (.iload_n 3, 1) := by decide +kernel
theorem dL_law_470 : decode cL_law 470 = .ok (.iconst 1, 1) := by decide +kernel
theorem dL_law_471 : decode cL_law 471 = .ok (.iadd, 1) := by decide +kernel
theorem dL_law_472 : decode cL_law 472 = .ok (.iaload, 1) := by decide +kernel
theorem dL_law_473 : decode cL_law 473 = .ok (.invokevirtual 52, 3) := by decide +kernel
theorem dL_law_476 : decode cL_law 476 = .ok (.if_icmp .eq 510, 3) := by decide +kernel
theorem dL_law_479 : decode cL_law 479 = .ok (.iconst 0, 1) := by decide +kernel
theorem dL_law_480 : decode cL_law 480 = .ok (.ireturn, 1) := by decide +kernel
theorem dL_law_481 : decode cL_law 481 = .ok (.aload_n 1, 1) := by decide +kernel
theorem dL_law_482 : decode cL_law 482 = .ok (.aload_n 0, 1) := by decide +kernel
theorem dL_law_483 : decode cL_law 483 = .ok (.iload_n 3, 1) := by decide +kernel
theorem dL_law_484 : decode cL_law 484 = .ok (.iconst 1, 1) := by decide +kernel
theorem dL_law_485 : decode cL_law 485 = .ok (.iadd, 1) := by decide +kernel
theorem dL_law_486 : decode cL_law 486 = .ok (.iaload, 1) := by decide +kernel
theorem dL_law_487 : decode cL_law 487 = .ok (.aload_n 0, 1) := by decide +kernel
theorem dL_law_488 : decode cL_law 488 = .ok (.iload_n 3, 1) := by decide +kernel
theorem dL_law_489 : decode cL_law 489 = .ok (.iconst 2, 1) := by decide +kernel
theorem dL_law_490 : decode cL_law 490 = .ok (.iadd, 1) := by decide +kernel
theorem dL_law_491 : decode cL_law 491 = .ok (.iaload, 1) := by decide +kernel
theorem dL_law_492 : decode cL_law 492 = .ok (.aload_n 0, 1) := by decide +kernel
theorem dL_law_493 : decode cL_law 493 = .ok (.iload_n 3, 1) := by decide +kernel
theorem dL_law_494 : decode cL_law 494 = .ok (.iconst 3, 1) := by decide +kernel
theorem dL_law_495 : decode cL_law 495 = .ok (.iadd, 1) := by decide +kernel
theorem dL_law_496 : decode cL_law 496 = .ok (.iaload, 1) := by decide +kernel
theorem dL_law_497 : decode cL_law 497 = .ok (.invokevirtual 53, 3) := by decide +kernel
theorem dL_law_500 : decode cL_law 500 = .ok (.aload_n 2, 1) := by decide +kernel
theorem dL_law_501 : decode cL_law 501 = .ok (.aload_n 0, 1) := by decide +kernel
theorem dL_law_502 : decode cL_law 502 = .ok (.iload_n 3, 1) := by decide +kernel
theorem dL_law_503 : decode cL_law 503 = .ok (.iconst 1, 1) := by decide +kernel
theorem dL_law_504 : decode cL_law 504 = .ok (.iadd, 1) := by decide +kernel
theorem dL_law_505 : decode cL_law 505 = .ok (.iaload, 1) := by decide +kernel
theorem dL_law_506 : decode cL_law 506 = .ok (.aload_n 0, 1) := by decide +kernel
theorem dL_law_507 : decode cL_law 507 = .ok (.iload_n 3, 1) := by decide +kernel
theorem dL_law_508 : decode cL_law 508 = .ok (.iconst 2, 1) := by decide +kernel
theorem dL_law_509 : decode cL_law 509 = .ok (.iadd, 1) := by decide +kernel
theorem dL_law_510 : decode cL_law 510 = .ok (.iaload, 1) := by decide +kernel
theorem dL_law_511 : decode cL_law 511 = .ok (.aload_n 0, 1) := by decide +kernel
theorem dL_law_512 : decode cL_law 512 = .ok (.iload_n 3, 1) := by decide +kernel
theorem dL_law_513 : decode cL_law 513 = .ok (.iconst 3, 1) := by decide +kernel
theorem dL_law_514 : decode cL_law 514 = .ok (.iadd, 1) := by decide +kernel
theorem dL_law_515 : decode cL_law 515 = .ok (.iaload, 1) := by decide +kernel
theorem dL_law_516 : decode cL_law 516 = .ok (.invokevirtual 56, 3) := by decide +kernel
theorem dL_law_519 : decode cL_law 519 = .ok (.if_icmp .eq 467, 3) := by decide +kernel
theorem dL_law_522 : decode cL_law 522 = .ok (.iconst 0, 1) := by decide +kernel
theorem dL_law_523 : decode cL_law 523 = .ok (.ireturn, 1) := by decide +kernel
theorem dL_law_524 : decode cL_law 524 = .ok (.aload_n 1, 1) := by decide +kernel
theorem dL_law_525 : decode cL_law 525 = .ok (.aload_n 0, 1) := by decide +kernel
theorem dL_law_526 : decode cL_law 526 = .ok (.iload_n 3, 1) := by decide +kernel
theorem dL_law_527 : decode cL_law 527 = .ok (.iconst 1, 1) := by decide +kernel
theorem dL_law_528 : decode cL_law 528 = .ok (.iadd, 1) := by decide +kernel
theorem dL_law_529 : decode cL_law 529 = .ok (.iaload, 1) := by decide +kernel
theorem dL_law_530 : decode cL_law 530 = .ok (.aload_n 0, 1) := by decide +kernel
theorem dL_law_531 : decode cL_law 531 = .ok (.iload_n 3, 1) := by decide +kernel
theorem dL_law_532 : decode cL_law 532 = .ok (.iconst 2, 1) := by decide +kernel
theorem dL_law_533 : decode cL_law 533 = .ok (.iadd, 1) := by decide +kernel
theorem dL_law_534 : decode cL_law 534 = .ok (.iaload, 1) := by decide +kernel
theorem dL_law_535 : decode cL_law 535 = .ok (.aload_n 0, 1) := by decide +kernel
theorem dL_law_536 : decode cL_law 536 = .ok (.iload_n 3, 1) := by decide +kernel
theorem dL_law_537 : decode cL_law 537 = .ok (.iconst 3, 1) := by decide +kernel
theorem dL_law_538 : decode cL_law 538 = .ok (.iadd, 1) := by decide +kernel
theorem dL_law_539 : decode cL_law 539 = .ok (.iaload, 1) := by decide +kernel
theorem dL_law_540 : decode cL_law 540 = .ok (.invokevirtual 57, 3) := by decide +kernel
theorem dL_law_543 : decode cL_law 543 = .ok (.aload_n 2, 1) := by decide +kernel
theorem dL_law_544 : decode cL_law 544 = .ok (.aload_n 0, 1) := by decide +kernel
theorem dL_law_545 : decode cL_law 545 = .ok (.iload_n 3, 1) := by decide +kernel
theorem dL_law_546 : decode cL_law 546 = .ok (.iconst 1, 1) := by decide +kernel
theorem dL_law_547 : decode cL_law 547 = .ok (.iadd, 1) := by decide +kernel
theorem dL_law_548 : decode cL_law 548 = .ok (.iaload, 1) := by decide +kernel
theorem dL_law_549 : decode cL_law 549 = .ok (.aload_n 0, 1) := by decide +kernel
theorem dL_law_550 : decode cL_law 550 = .ok (.iload_n 3, 1) := by decide +kernel
theorem dL_law_551 : decode cL_law 551 = .ok (.iconst 2, 1) := by decide +kernel
theorem dL_law_552 : decode cL_law 552 = .ok (.iadd, 1) := by decide +kernel
theorem dL_law_553 : decode cL_law 553 = .ok (.iaload, 1) := by decide +kernel
theorem dL_law_554 : decode cL_law 554 = .ok (.aload_n 0, 1) := by decide +kernel
theorem dL_law_555 : decode cL_law 555 = .ok (.iload_n 3, 1) := by decide +kernel
theorem dL_law_556 : decode cL_law 556 = .ok (.iconst 3, 1) := by decide +kernel
theorem dL_law_557 : decode cL_law 557 = .ok (.iadd, 1) := by decide +kernel
theorem dL_law_558 : decode cL_law 558 = .ok (.iaload, 1) := by decide +kernel
theorem dL_law_559 : decode cL_law 559 = .ok (.invokevirtual 60, 3) := by decide +kernel
theorem dL_law_562 : decode cL_law 562 = .ok (.if_icmp .eq 424, 3) := by decide +kernel
theorem dL_law_565 : decode cL_law 565 = .ok (.iconst 0, 1) := by decide +kernel
theorem dL_law_566 : decode cL_law 566 = .ok (.ireturn, 1) := by decide +kernel
theorem dL_law_567 : decode cL_law 567 = .ok (.aload_n 1, 1) := by decide +kernel
theorem dL_law_568 : decode cL_law 568 = .ok (.aload_n 0, 1) := by decide +kernel
theorem dL_law_569 : decode cL_law 569 = .ok (.iload_n 3, 1) := by decide +kernel
theorem dL_law_570 : decode cL_law 570 = .ok (.iconst 1, 1) := by decide +kernel
theorem dL_law_571 : decode cL_law 571 = .ok (.iadd, 1) := by decide +kernel
theorem dL_law_572 : decode cL_law 572 = .ok (.iaload, 1) := by decide +kernel
theorem dL_law_573 : decode cL_law 573 = .ok (.aload_n 0, 1) := by decide +kernel
theorem dL_law_574 : decode cL_law 574 = .ok (.iload_n 3, 1) := by decide +kernel
theorem dL_law_575 : decode cL_law 575 = .ok (.iconst 2, 1) := by decide +kernel
theorem dL_law_576 : decode cL_law 576 = .ok (.iadd, 1) := by decide +kernel
theorem dL_law_577 : decode cL_law 577 = .ok (.iaload, 1) := by decide +kernel
theorem dL_law_578 : decode cL_law 578 = .ok (.aload_n 0, 1) := by decide +kernel
theorem dL_law_579 : decode cL_law 579 = .ok (.iload_n 3, 1) := by decide +kernel
theorem dL_law_580 : decode cL_law 580 = .ok (.iconst 3, 1) := by decide +kernel
theorem dL_law_581 : decode cL_law 581 = .ok (.iadd, 1) := by decide +kernel
theorem dL_law_582 : decode cL_law 582 = .ok (.iaload, 1) := by decide +kernel
theorem dL_law_583 : decode cL_law 583 = .ok (.invokevirtual 61, 3) := by decide +kernel
theorem dL_law_586 : decode cL_law 586 = .ok (.aload_n 2, 1) := by decide +kernel
theorem dL_law_587 : decode cL_law 587 = .ok (.aload_n 0, 1) := by decide +kernel
theorem dL_law_588 : decode cL_law 588 = .ok (.iload_n 3, 1) := by decide +kernel
theorem dL_law_589 : decode cL_law 589 = .ok (.iconst 1, 1) := by decide +kernel
theorem dL_law_590 : decode cL_law 590 = .ok (.iadd, 1) := by decide +kernel
theorem dL_law_591 : decode cL_law 591 = .ok (.iaload, 1) := by decide +kernel
theorem dL_law_592 : decode cL_law 592 = .ok (.aload_n 0, 1) := by decide +kernel
theorem dL_law_593 : decode cL_law 593 = .ok (.iload_n 3, 1) := by decide +kernel
theorem dL_law_594 : decode cL_law 594 = .ok (.iconst 2, 1) := by decide +kernel
theorem dL_law_595 : decode cL_law 595 = .ok (.iadd, 1) := by decide +kernel
theorem dL_law_596 : decode cL_law 596 = .ok (.iaload, 1) := by decide +kernel
theorem dL_law_597 : decode cL_law 597 = .ok (.aload_n 0, 1) := by decide +kernel
theorem dL_law_598 : decode cL_law 598 = .ok (.iload_n 3, 1) := by decide +kernel
theorem dL_law_599 : decode cL_law 599 = .ok (.iconst 3, 1) := by decide +kernel
theorem dL_law_600 : decode cL_law 600 = .ok (.iadd, 1) := by decide +kernel
theorem dL_law_601 : decode cL_law 601 = .ok (.iaload, 1) := by decide +kernel
theorem dL_law_602 : decode cL_law 602 = .ok (.invokevirtual 64, 3) := by decide +kernel
theorem dL_law_605 : decode cL_law 605 = .ok (.if_icmp .eq 381, 3) := by decide +kernel
theorem dL_law_608 : decode cL_law 608 = .ok (.iconst 0, 1) := by decide +kernel
theorem dL_law_609 : decode cL_law 609 = .ok (.ireturn, 1) := by decide +kernel
theorem dL_law_610 : decode cL_law 610 = .ok (.aload_n 1, 1) := by decide +kernel
theorem dL_law_611 : decode cL_law 611 = .ok (.aload_n 0, 1) := by decide +kernel
theorem dL_law_612 : decode cL_law 612 = .ok (.iload_n 3, 1) := by decide +kernel
theorem dL_law_613 : decode cL_law 613 = .ok (.iconst 1, 1) := by decide +kernel
theorem dL_law_614 : decode cL_law 614 = .ok (.iadd, 1) := by decide +kernel
theorem dL_law_615 : decode cL_law 615 = .ok (.iaload, 1) := by decide +kernel
theorem dL_law_616 : decode cL_law 616 = .ok (.aload_n 0, 1) := by decide +kernel
theorem dL_law_617 : decode cL_law 617 = .ok (.iload_n 3, 1) := by decide +kernel
theorem dL_law_618 : decode cL_law 618 = .ok (.iconst 2, 1) := by decide +kernel
theorem dL_law_619 : decode cL_law 619 = .ok (.iadd, 1) := by decide +kernel
theorem dL_law_620 : decode cL_law 620 = .ok (.iaload, 1) := by decide +kernel
theorem dL_law_621 : decode cL_law 621 = .ok (.invokevirtual 65, 3) := by decide +kernel
theorem dL_law_624 : decode cL_law 624 = .ok (.aload_n 2, 1) := by decide +kernel
theorem dL_law_625 : decode cL_law 625 = .ok (.aload_n 0, 1) := by decide +kernel
theorem dL_law_626 : decode cL_law 626 = .ok (.iload_n 3, 1) := by decide +kernel
theorem dL_law_627 : decode cL_law 627 = .ok (.iconst 1, 1) := by decide +kernel
theorem dL_law_628 : decode cL_law 628 = .ok (.iadd, 1) := by decide +kernel
theorem dL_law_629 : decode cL_law 629 = .ok (.iaload, 1) := by decide +kernel
theorem dL_law_630 : decode cL_law 630 = .ok (.aload_n 0, 1) := by decide +kernel
theorem dL_law_631 : decode cL_law 631 = .ok (.iload_n 3, 1) := by decide +kernel
theorem dL_law_632 : decode cL_law 632 = .ok (.iconst 2, 1) := by decide +kernel
theorem dL_law_633 : decode cL_law 633 = .ok (.iadd, 1) := by decide +kernel
theorem dL_law_634 : decode cL_law 634 = .ok (.iaload, 1) := by decide +kernel
theorem dL_law_635 : decode cL_law 635 = .ok (.invokevirtual 68, 3) := by decide +kernel
theorem dL_law_638 : decode cL_law 638 = .ok (.if_icmp .eq 348, 3) := by decide +kernel
theorem dL_law_641 : decode cL_law 641 = .ok (.iconst 0, 1) := by decide +kernel
theorem dL_law_642 : decode cL_law 642 = .ok (.ireturn, 1) := by decide +kernel
theorem dL_law_643 : decode cL_law 643 = .ok (.aload_n 1, 1) := by decide +kernel
theorem dL_law_644 : decode cL_law 644 = .ok (.aload_n 0, 1) := by decide +kernel
theorem dL_law_645 : decode cL_law 645 = .ok (.iload_n 3, 1) := by decide +kernel
theorem dL_law_646 : decode cL_law 646 = .ok (.iconst 1, 1) := by decide +kernel
theorem dL_law_647 : decode cL_law 647 = .ok (.iadd, 1) := by decide +kernel
theorem dL_law_648 : decode cL_law 648 = .ok (.iaload, 1) := by decide +kernel
theorem dL_law_649 : decode cL_law 649 = .ok (.aload_n 0, 1) := by decide +kernel
theorem dL_law_650 : decode cL_law 650 = .ok (.iload_n 3, 1) := by decide +kernel
theorem dL_law_651 : decode cL_law 651 = .ok (.iconst 2, 1) := by decide +kernel
theorem dL_law_652 : decode cL_law 652 = .ok (.iadd, 1) := by decide +kernel
theorem dL_law_653 : decode cL_law 653 = .ok (.iaload, 1) := by decide +kernel
theorem dL_law_654 : decode cL_law 654 = .ok (.invokevirtual 69, 3) := by decide +kernel
theorem dL_law_657 : decode cL_law 657 = .ok (.aload_n 2, 1) := by decide +kernel
theorem dL_law_658 : decode cL_law 658 = .ok (.aload_n 0, 1) := by decide +kernel
theorem dL_law_659 : decode cL_law 659 = .ok (.iload_n 3, 1) := by decide +kernel
theorem dL_law_660 : decode cL_law 660 = .ok (.iconst 1, 1) := by decide +kernel
theorem dL_law_661 : decode cL_law 661 = .ok (.iadd, 1) := by decide +kernel
theorem dL_law_662 : decode cL_law 662 = .ok (.iaload, 1) := by decide +kernel
theorem dL_law_663 : decode cL_law 663 = .ok (.aload_n 0, 1) := by decide +kernel
theorem dL_law_664 : decode cL_law 664 = .ok (.iload_n 3, 1) := by decide +kernel
theorem dL_law_665 : decode cL_law 665 = .ok (.iconst 2, 1) := by decide +kernel
theorem dL_law_666 : decode cL_law 666 = .ok (.iadd, 1) := by decide +kernel
theorem dL_law_667 : decode cL_law 667 = .ok (.iaload, 1) := by decide +kernel
theorem dL_law_668 : decode cL_law 668 = .ok (.invokevirtual 72, 3) := by decide +kernel
theorem dL_law_671 : decode cL_law 671 = .ok (.if_icmp .eq 315, 3) := by decide +kernel
theorem dL_law_674 : decode cL_law 674 = .ok (.iconst 0, 1) := by decide +kernel
theorem dL_law_675 : decode cL_law 675 = .ok (.ireturn, 1) := by decide +kernel
theorem dL_law_676 : decode cL_law 676 = .ok (.aload_n 1, 1) := by decide +kernel
theorem dL_law_677 : decode cL_law 677 = .ok (.aload_n 0, 1) := by decide +kernel
theorem dL_law_678 : decode cL_law 678 = .ok (.iload_n 3, 1) := by decide +kernel
theorem dL_law_679 : decode cL_law 679 = .ok (.iconst 1, 1) := by decide +kernel
theorem dL_law_680 : decode cL_law 680 = .ok (.iadd, 1) := by decide +kernel
theorem dL_law_681 : decode cL_law 681 = .ok (.iaload, 1) := by decide +kernel
theorem dL_law_682 : decode cL_law 682 = .ok (.aload_n 0, 1) := by decide +kernel
theorem dL_law_683 : decode cL_law 683 = .ok (.iload_n 3, 1) := by decide +kernel
theorem dL_law_684 : decode cL_law 684 = .ok (.iconst 2, 1) := by decide +kernel
theorem dL_law_685 : decode cL_law 685 = .ok (.iadd, 1) := by decide +kernel
theorem dL_law_686 : decode cL_law 686 = .ok (.iaload, 1) := by decide +kernel
theorem dL_law_687 : decode cL_law 687 = .ok (.aload_n 0, 1) := by decide +kernel
theorem dL_law_688 : decode cL_law 688 = .ok (.iload_n 3, 1) := by decide +kernel
theorem dL_law_689 : decode cL_law 689 = .ok (.iconst 3, 1) := by decide +kernel
theorem dL_law_690 : decode cL_law 690 = .ok (.iadd, 1) := by decide +kernel
theorem dL_law_691 : decode cL_law 691 = .ok (.iaload, 1) := by decide +kernel
theorem dL_law_692 : decode cL_law 692 = .ok (.invokevirtual 73, 3) := by decide +kernel
theorem dL_law_695 : decode cL_law 695 = .ok (.aload_n 2, 1) := by decide +kernel
theorem dL_law_696 : decode cL_law 696 = .ok (.aload_n 0, 1) := by decide +kernel
theorem dL_law_697 : decode cL_law 697 = .ok (.iload_n 3, 1) := by decide +kernel
theorem dL_law_698 : decode cL_law 698 = .ok (.iconst 1, 1) := by decide +kernel
theorem dL_law_699 : decode cL_law 699 = .ok (.iadd, 1) := by decide +kernel
theorem dL_law_700 : decode cL_law 700 = .ok (.iaload, 1) := by decide +kernel
theorem dL_law_701 : decode cL_law 701 = .ok (.aload_n 0, 1) := by decide +kernel
theorem dL_law_702 : decode cL_law 702 = .ok (.iload_n 3, 1) := by decide +kernel
theorem dL_law_703 : decode cL_law 703 = .ok (.iconst 2, 1) := by decide +kernel
theorem dL_law_704 : decode cL_law 704 = .ok (.iadd, 1) := by decide +kernel
theorem dL_law_705 : decode cL_law 705 = .ok (.iaload, 1) := by decide +kernel
theorem dL_law_706 : decode cL_law 706 = .ok (.aload_n 0, 1) := by decide +kernel
theorem dL_law_707 : decode cL_law 707 = .ok (.iload_n 3, 1) := by decide +kernel
theorem dL_law_708 : decode cL_law 708 = .ok (.iconst 3, 1) := by decide +kernel
theorem dL_law_709 : decode cL_law 709 = .ok (.iadd, 1) := by decide +kernel
theorem dL_law_710 : decode cL_law 710 = .ok (.iaload, 1) := by decide +kernel
theorem dL_law_711 : decode cL_law 711 = .ok (.invokevirtual 76, 3) := by decide +kernel
theorem dL_law_714 : decode cL_law 714 = .ok (.if_icmp .eq 272, 3) := by decide +kernel
theorem dL_law_717 : decode cL_law 717 = .ok (.iconst 0, 1) := by decide +kernel
theorem dL_law_718 : decode cL_law 718 = .ok (.ireturn, 1) := by decide +kernel
theorem dL_law_719 : decode cL_law 719 = .ok (.aload_n 1, 1) := by decide +kernel
theorem dL_law_720 : decode cL_law 720 = .ok (.aload_n 0, 1) := by decide +kernel
theorem dL_law_721 : decode cL_law 721 = .ok (.iload_n 3, 1) := by decide +kernel
theorem dL_law_722 : decode cL_law 722 = .ok (.iconst 1, 1) := by decide +kernel
theorem dL_law_723 : decode cL_law 723 = .ok (.iadd, 1) := by decide +kernel
theorem dL_law_724 : decode cL_law 724 = .ok (.iaload, 1) := by decide +kernel
theorem dL_law_725 : decode cL_law 725 = .ok (.invokevirtual 77, 3) := by decide +kernel
theorem dL_law_728 : decode cL_law 728 = .ok (.aload_n 2, 1) := by decide +kernel
theorem dL_law_729 : decode cL_law 729 = .ok (.aload_n 0, 1) := by decide +kernel
theorem dL_law_730 : decode cL_law 730 = .ok (.iload_n 3, 1) := by decide +kernel
theorem dL_law_731 : decode cL_law 731 = .ok (.iconst 1, 1) := by decide +kernel
theorem dL_law_732 : decode cL_law 732 = .ok (.iadd, 1) := by decide +kernel
theorem dL_law_733 : decode cL_law 733 = .ok (.iaload, 1) := by decide +kernel
theorem dL_law_734 : decode cL_law 734 = .ok (.invokevirtual 80, 3) := by decide +kernel
theorem dL_law_737 : decode cL_law 737 = .ok (.if_icmp .eq 249, 3) := by decide +kernel
theorem dL_law_740 : decode cL_law 740 = .ok (.iconst 0, 1) := by decide +kernel
theorem dL_law_741 : decode cL_law 741 = .ok (.ireturn, 1) := by decide +kernel
theorem dL_law_742 : decode cL_law 742 = .ok (.aload_n 1, 1) := by decide +kernel
theorem dL_law_743 : decode cL_law 743 = .ok (.aload_n 0, 1) := by decide +kernel
theorem dL_law_744 : decode cL_law 744 = .ok (.iload_n 3, 1) := by decide +kernel
theorem dL_law_745 : decode cL_law 745 = .ok (.iconst 1, 1) := by decide +kernel
theorem dL_law_746 : decode cL_law 746 = .ok (.iadd, 1) := by decide +kernel
theorem dL_law_747 : decode cL_law 747 = .ok (.iaload, 1) := by decide +kernel
theorem dL_law_748 : decode cL_law 748 = .ok (.aload_n 0, 1) := by decide +kernel
theorem dL_law_749 : decode cL_law 749 = .ok (.iload_n 3, 1) := by decide +kernel
theorem dL_law_750 : decode cL_law 750 = .ok (.iconst 2, 1) := by decide +kernel
theorem dL_law_751 : decode cL_law 751 = .ok (.iadd, 1) := by decide +kernel
theorem dL_law_752 : decode cL_law 752 = .ok (.iaload, 1) := by decide +kernel
theorem dL_law_753 : decode cL_law 753 = .ok (.invokevirtual 81, 3) := by decide +kernel
theorem dL_law_756 : decode cL_law 756 = .ok (.aload_n 2, 1) := by decide +kernel
theorem dL_law_757 : decode cL_law 757 = .ok (.aload_n 0, 1) := by decide +kernel
theorem dL_law_758 : decode cL_law 758 = .ok (.iload_n 3, 1) := by decide +kernel
theorem dL_law_759 : decode cL_law 759 = .ok (.iconst 1, 1) := by decide +kernel
theorem dL_law_760 : decode cL_law 760 = .ok (.iadd, 1) := by decide +kernel
theorem dL_law_761 : decode cL_law 761 = .ok (.iaload, 1) := by decide +kernel
theorem dL_law_762 : decode cL_law 762 = .ok (.aload_n 0, 1) := by decide +kernel
theorem dL_law_763 : decode cL_law 763 = .ok (.iload_n 3, 1) := by decide +kernel
theorem dL_law_764 : decode cL_law 764 = .ok (.iconst 2, 1) := by decide +kernel
theorem dL_law_765 : decode cL_law 765 = .ok (.iadd, 1) := by decide +kernel
theorem dL_law_766 : decode cL_law 766 = .ok (.iaload, 1) := by decide +kernel
theorem dL_law_767 : decode cL_law 767 = .ok (.invokevirtual 84, 3) := by decide +kernel
theorem dL_law_770 : decode cL_law 770 = .ok (.if_icmp .eq 216, 3) := by decide +kernel
theorem dL_law_773 : decode cL_law 773 = .ok (.iconst 0, 1) := by decide +kernel
theorem dL_law_774 : decode cL_law 774 = .ok (.ireturn, 1) := by decide +kernel
theorem dL_law_775 : decode cL_law 775 = .ok (.aload_n 1, 1) := by decide +kernel
theorem dL_law_776 : decode cL_law 776 = .ok (.aload_n 0, 1) := by decide +kernel
theorem dL_law_777 : decode cL_law 777 = .ok (.iload_n 3, 1) := by decide +kernel
theorem dL_law_778 : decode cL_law 778 = .ok (.iconst 1, 1) := by decide +kernel
theorem dL_law_779 : decode cL_law 779 = .ok (.iadd, 1) := by decide +kernel
theorem dL_law_780 : decode cL_law 780 = .ok (.iaload, 1) := by decide +kernel
theorem dL_law_781 : decode cL_law 781 = .ok (.aload_n 0, 1) := by decide +kernel
theorem dL_law_782 : decode cL_law 782 = .ok (.iload_n 3, 1) := by decide +kernel
theorem dL_law_783 : decode cL_law 783 = .ok (.iconst 2, 1) := by decide +kernel
theorem dL_law_784 : decode cL_law 784 = .ok (.iadd, 1) := by decide +kernel
theorem dL_law_785 : decode cL_law 785 = .ok (.iaload, 1) := by decide +kernel
theorem dL_law_786 : decode cL_law 786 = .ok (.aload_n 0, 1) := by decide +kernel
theorem dL_law_787 : decode cL_law 787 = .ok (.iload_n 3, 1) := by decide +kernel
theorem dL_law_788 : decode cL_law 788 = .ok (.iconst 3, 1) := by decide +kernel
theorem dL_law_789 : decode cL_law 789 = .ok (.iadd, 1) := by decide +kernel
theorem dL_law_790 : decode cL_law 790 = .ok (.iaload, 1) := by decide +kernel
theorem dL_law_791 : decode cL_law 791 = .ok (.invokevirtual 85, 3) := by decide +kernel
theorem dL_law_794 : decode cL_law 794 = .ok (.aload_n 2, 1) := by decide +kernel
theorem dL_law_795 : decode cL_law 795 = .ok (.aload_n 0, 1) := by decide +kernel
theorem dL_law_796 : decode cL_law 796 = .ok (.iload_n 3, 1) := by decide +kernel
theorem dL_law_797 : decode cL_law 797 = .ok (.iconst 1, 1) := by decide +kernel
theorem dL_law_798 : decode cL_law 798 = .ok (.iadd, 1) := by decide +kernel
theorem dL_law_799 : decode cL_law 799 = .ok (.iaload, 1) := by decide +kernel
theorem dL_law_800 : decode cL_law 800 = .ok (.aload_n 0, 1) := by decide +kernel
theorem dL_law_801 : decode cL_law 801 = .ok (.iload_n 3, 1) := by decide +kernel
theorem dL_law_802 : decode cL_law 802 = .ok (.iconst 2, 1) := by decide +kernel
theorem dL_law_803 : decode cL_law 803 = .ok (.iadd, 1) := by decide +kernel
theorem dL_law_804 : decode cL_law 804 = .ok (.iaload, 1) := by decide +kernel
theorem dL_law_805 : decode cL_law 805 = .ok (.aload_n 0, 1) := by decide +kernel
theorem dL_law_806 : decode cL_law 806 = .ok (.iload_n 3, 1) := by decide +kernel
theorem dL_law_807 : decode cL_law 807 = .ok (.iconst 3, 1) := by decide +kernel
theorem dL_law_808 : decode cL_law 808 = .ok (.iadd, 1) := by decide +kernel
theorem dL_law_809 : decode cL_law 809 = .ok (.iaload, 1) := by decide +kernel
theorem dL_law_810 : decode cL_law 810 = .ok (.invokevirtual 88, 3) := by decide +kernel
theorem dL_law_813 : decode cL_law 813 = .ok (.if_icmp .eq 173, 3) := by decide +kernel
theorem dL_law_816 : decode cL_law 816 = .ok (.iconst 0, 1) := by decide +kernel
theorem dL_law_817 : decode cL_law 817 = .ok (.ireturn, 1) := by decide +kernel
theorem dL_law_818 : decode cL_law 818 = .ok (.aload_n 1, 1) := by decide +kernel
theorem dL_law_819 : decode cL_law 819 = .ok (.aload_n 0, 1) := by decide +kernel
theorem dL_law_820 : decode cL_law 820 = .ok (.iload_n 3, 1) := by decide +kernel
theorem dL_law_821 : decode cL_law 821 = .ok (.iconst 1, 1) := by decide +kernel
theorem dL_law_822 : decode cL_law 822 = .ok (.iadd, 1) := by decide +kernel
theorem dL_law_823 : decode cL_law 823 = .ok (.iaload, 1) := by decide +kernel
theorem dL_law_824 : decode cL_law 824 = .ok (.aload_n 0, 1) := by decide +kernel
theorem dL_law_825 : decode cL_law 825 = .ok (.iload_n 3, 1) := by decide +kernel
theorem dL_law_826 : decode cL_law 826 = .ok (.iconst 2, 1) := by decide +kernel
theorem dL_law_827 : decode cL_law 827 = .ok (.iadd, 1) := by decide +kernel
theorem dL_law_828 : decode cL_law 828 = .ok (.iaload, 1) := by decide +kernel
theorem dL_law_829 : decode cL_law 829 = .ok (.aload_n 0, 1) := by decide +kernel
theorem dL_law_830 : decode cL_law 830 = .ok (.iload_n 3, 1) := by decide +kernel
theorem dL_law_831 : decode cL_law 831 = .ok (.iconst 3, 1) := by decide +kernel
theorem dL_law_832 : decode cL_law 832 = .ok (.iadd, 1) := by decide +kernel
theorem dL_law_833 : decode cL_law 833 = .ok (.iaload, 1) := by decide +kernel
theorem dL_law_834 : decode cL_law 834 = .ok (.invokevirtual 89, 3) := by decide +kernel
theorem dL_law_837 : decode cL_law 837 = .ok (.aload_n 2, 1) := by decide +kernel
theorem dL_law_838 : decode cL_law 838 = .ok (.aload_n 0, 1) := by decide +kernel
theorem dL_law_839 : decode cL_law 839 = .ok (.iload_n 3, 1) := by decide +kernel
theorem dL_law_840 : decode cL_law 840 = .ok (.iconst 1, 1) := by decide +kernel
theorem dL_law_841 : decode cL_law 841 = .ok (.iadd, 1) := by decide +kernel
theorem dL_law_842 : decode cL_law 842 = .ok (.iaload, 1) := by decide +kernel
theorem dL_law_843 : decode cL_law 843 = .ok (.aload_n 0, 1) := by decide +kernel
theorem dL_law_844 : decode cL_law 844 = .ok (.iload_n 3, 1) := by decide +kernel
theorem dL_law_845 : decode cL_law 845 = .ok (.iconst 2, 1) := by decide +kernel
theorem dL_law_846 : decode cL_law 846 = .ok (.iadd, 1) := by decide +kernel
theorem dL_law_847 : decode cL_law 847 = .ok (.iaload, 1) := by decide +kernel
theorem dL_law_848 : decode cL_law 848 = .ok (.aload_n 0, 1) := by decide +kernel
theorem dL_law_849 : decode cL_law 849 = .ok (.iload_n 3, 1) := by decide +kernel
theorem dL_law_850 : decode cL_law 850 = .ok (.iconst 3, 1) := by decide +kernel
theorem dL_law_851 : decode cL_law 851 = .ok (.iadd, 1) := by decide +kernel
theorem dL_law_852 : decode cL_law 852 = .ok (.iaload, 1) := by decide +kernel
theorem dL_law_853 : decode cL_law 853 = .ok (.invokevirtual 92, 3) := by decide +kernel
theorem dL_law_856 : decode cL_law 856 = .ok (.if_icmp .eq 130, 3) := by decide +kernel
theorem dL_law_859 : decode cL_law 859 = .ok (.iconst 0, 1) := by decide +kernel
theorem dL_law_860 : decode cL_law 860 = .ok (.ireturn, 1) := by decide +kernel
theorem dL_law_861 : decode cL_law 861 = .ok (.aload_n 1, 1) := by decide +kernel
theorem dL_law_862 : decode cL_law 862 = .ok (.aload_n 0, 1) := by decide +kernel
theorem dL_law_863 : decode cL_law 863 = .ok (.iload_n 3, 1) := by decide +kernel
theorem dL_law_864 : decode cL_law 864 = .ok (.iconst 1, 1) := by decide +kernel
theorem dL_law_865 : decode cL_law 865 = .ok (.iadd, 1) := by decide +kernel
theorem dL_law_866 : decode cL_law 866 = .ok (.iaload, 1) := by decide +kernel
theorem dL_law_867 : decode cL_law 867 = .ok (.aload_n 0, 1) := by decide +kernel
theorem dL_law_868 : decode cL_law 868 = .ok (.iload_n 3, 1) := by decide +kernel
theorem dL_law_869 : decode cL_law 869 = .ok (.iconst 2, 1) := by decide +kernel
theorem dL_law_870 : decode cL_law 870 = .ok (.iadd, 1) := by decide +kernel
theorem dL_law_871 : decode cL_law 871 = .ok (.iaload, 1) := by decide +kernel
theorem dL_law_872 : decode cL_law 872 = .ok (.invokevirtual 93, 3) := by decide +kernel
theorem dL_law_875 : decode cL_law 875 = .ok (.aload_n 2, 1) := by decide +kernel
theorem dL_law_876 : decode cL_law 876 = .ok (.aload_n 0, 1) := by decide +kernel
theorem dL_law_877 : decode cL_law 877 = .ok (.iload_n 3, 1) := by decide +kernel
theorem dL_law_878 : decode cL_law 878 = .ok (.iconst 1, 1) := by decide +kernel
theorem dL_law_879 : decode cL_law 879 = .ok (.iadd, 1) := by decide +kernel
theorem dL_law_880 : decode cL_law 880 = .ok (.iaload, 1) := by decide +kernel
theorem dL_law_881 : decode cL_law 881 = .ok (.aload_n 0, 1) := by decide +kernel
theorem dL_law_882 : decode cL_law 882 = .ok (.iload_n 3, 1) := by decide +kernel
theorem dL_law_883 : decode cL_law 883 = .ok (.iconst 2, 1) := by decide +kernel
theorem dL_law_884 : decode cL_law 884 = .ok (.iadd, 1) := by decide +kernel
theorem dL_law_885 : decode cL_law 885 = .ok (.iaload, 1) := by decide +kernel
theorem dL_law_886 : decode cL_law 886 = .ok (.invokevirtual 96, 3) := by decide +kernel
theorem dL_law_889 : decode cL_law 889 = .ok (.if_icmp .eq 97, 3) := by decide +kernel
theorem dL_law_892 : decode cL_law 892 = .ok (.iconst 0, 1) := by decide +kernel
theorem dL_law_893 : decode cL_law 893 = .ok (.ireturn, 1) := by decide +kernel
theorem dL_law_894 : decode cL_law 894 = .ok (.aload_n 1, 1) := by decide +kernel
theorem dL_law_895 : decode cL_law 895 = .ok (.aload_n 0, 1) := by decide +kernel
theorem dL_law_896 : decode cL_law 896 = .ok (.iload_n 3, 1) := by decide +kernel
theorem dL_law_897 : decode cL_law 897 = .ok (.iconst 1, 1) := by decide +kernel
theorem dL_law_898 : decode cL_law 898 = .ok (.iadd, 1) := by decide +kernel
theorem dL_law_899 : decode cL_law 899 = .ok (.iaload, 1) := by decide +kernel
theorem dL_law_900 : decode cL_law 900 = .ok (.invokevirtual 97, 3) := by decide +kernel
theorem dL_law_903 : decode cL_law 903 = .ok (.aload_n 2, 1) := by decide +kernel
theorem dL_law_904 : decode cL_law 904 = .ok (.aload_n 0, 1) := by decide +kernel
theorem dL_law_905 : decode cL_law 905 = .ok (.iload_n 3, 1) := by decide +kernel
theorem dL_law_906 : decode cL_law 906 = .ok (.iconst 1, 1) := by decide +kernel
theorem dL_law_907 : decode cL_law 907 = .ok (.iadd, 1) := by decide +kernel
theorem dL_law_908 : decode cL_law 908 = .ok (.iaload, 1) := by decide +kernel
theorem dL_law_909 : decode cL_law 909 = .ok (.invokevirtual 100, 3) := by decide +kernel
theorem dL_law_912 : decode cL_law 912 = .ok (.if_icmp .eq 74, 3) := by decide +kernel
theorem dL_law_915 : decode cL_law 915 = .ok (.iconst 0, 1) := by decide +kernel
theorem dL_law_916 : decode cL_law 916 = .ok (.ireturn, 1) := by decide +kernel
theorem dL_law_917 : decode cL_law 917 = .ok (.aload_n 1, 1) := by decide +kernel
theorem dL_law_918 : decode cL_law 918 = .ok (.aload_n 0, 1) := by decide +kernel
theorem dL_law_919 : decode cL_law 919 = .ok (.iload_n 3, 1) := by decide +kernel
theorem dL_law_920 : decode cL_law 920 = .ok (.iconst 1, 1) := by decide +kernel
theorem dL_law_921 : decode cL_law 921 = .ok (.iadd, 1) := by decide +kernel
theorem dL_law_922 : decode cL_law 922 = .ok (.iaload, 1) := by decide +kernel
theorem dL_law_923 : decode cL_law 923 = .ok (.invokevirtual 101, 3) := by decide +kernel
theorem dL_law_926 : decode cL_law 926 = .ok (.aload_n 2, 1) := by decide +kernel
theorem dL_law_927 : decode cL_law 927 = .ok (.aload_n 0, 1) := by decide +kernel
theorem dL_law_928 : decode cL_law 928 = .ok (.iload_n 3, 1) := by decide +kernel
theorem dL_law_929 : decode cL_law 929 = .ok (.iconst 1, 1) := by decide +kernel
theorem dL_law_930 : decode cL_law 930 = .ok (.iadd, 1) := by decide +kernel
theorem dL_law_931 : decode cL_law 931 = .ok (.iaload, 1) := by decide +kernel
theorem dL_law_932 : decode cL_law 932 = .ok (.invokevirtual 104, 3) := by decide +kernel
theorem dL_law_935 : decode cL_law 935 = .ok (.if_icmp .eq 51, 3) := by decide +kernel
theorem dL_law_938 : decode cL_law 938 = .ok (.iconst 0, 1) := by decide +kernel
theorem dL_law_939 : decode cL_law 939 = .ok (.ireturn, 1) := by decide +kernel
theorem dL_law_940 : decode cL_law 940 = .ok (.aload_n 1, 1) := by decide +kernel
theorem dL_law_941 : decode cL_law 941 = .ok (.aload_n 0, 1) := by decide +kernel
theorem dL_law_942 : decode cL_law 942 = .ok (.iload_n 3, 1) := by decide +kernel
theorem dL_law_943 : decode cL_law 943 = .ok (.iconst 1, 1) := by decide +kernel
theorem dL_law_944 : decode cL_law 944 = .ok (.iadd, 1) := by decide +kernel
theorem dL_law_945 : decode cL_law 945 = .ok (.iaload, 1) := by decide +kernel
theorem dL_law_946 : decode cL_law 946 = .ok (.invokevirtual 105, 3) := by decide +kernel
theorem dL_law_949 : decode cL_law 949 = .ok (.aload_n 2, 1) := by decide +kernel
theorem dL_law_950 : decode cL_law 950 = .ok (.aload_n 0, 1) := by decide +kernel
theorem dL_law_951 : decode cL_law 951 = .ok (.iload_n 3, 1) := by decide +kernel
theorem dL_law_952 : decode cL_law 952 = .ok (.iconst 1, 1) := by decide +kernel
theorem dL_law_953 : decode cL_law 953 = .ok (.iadd, 1) := by decide +kernel
theorem dL_law_954 : decode cL_law 954 = .ok (.iaload, 1) := by decide +kernel
theorem dL_law_955 : decode cL_law 955 = .ok (.invokevirtual 108, 3) := by decide +kernel
theorem dL_law_958 : decode cL_law 958 = .ok (.if_icmp .eq 28, 3) := by decide +kernel
theorem dL_law_961 : decode cL_law 961 = .ok (.iconst 0, 1) := by decide +kernel
theorem dL_law_962 : decode cL_law 962 = .ok (.ireturn, 1) := by decide +kernel
theorem dL_law_963 : decode cL_law 963 = .ok (.aload_n 1, 1) := by decide +kernel
theorem dL_law_964 : decode cL_law 964 = .ok (.aload_n 0, 1) := by decide +kernel
theorem dL_law_965 : decode cL_law 965 = .ok (.iload_n 3, 1) := by decide +kernel
theorem dL_law_966 : decode cL_law 966 = .ok (.iconst 1, 1) := by decide +kernel
theorem dL_law_967 : decode cL_law 967 = .ok (.iadd, 1) := by decide +kernel
theorem dL_law_968 : decode cL_law 968 = .ok (.iaload, 1) := by decide +kernel
theorem dL_law_969 : decode cL_law 969 = .ok (.invokevirtual 109, 3) := by decide +kernel
theorem dL_law_972 : decode cL_law 972 = .ok (.aload_n 2, 1) := by decide +kernel
theorem dL_law_973 : decode cL_law 973 = .ok (.aload_n 0, 1) := by decide +kernel
theorem dL_law_974 : decode cL_law 974 = .ok (.iload_n 3, 1) := by decide +kernel
theorem dL_law_975 : decode cL_law 975 = .ok (.iconst 1, 1) := by decide +kernel
theorem dL_law_976 : decode cL_law 976 = .ok (.iadd, 1) := by decide +kernel
theorem dL_law_977 : decode cL_law 977 = .ok (.iaload, 1) := by decide +kernel
theorem dL_law_978 : decode cL_law 978 = .ok (.invokevirtual 112, 3) := by decide +kernel
theorem dL_law_981 : decode cL_law 981 = .ok (.if_icmp .eq 5, 3) := by decide +kernel
theorem dL_law_984 : decode cL_law 984 = .ok (.iconst 0, 1) := by decide +kernel
theorem dL_law_985 : decode cL_law 985 = .ok (.ireturn, 1) := by decide +kernel
theorem dL_law_986 : decode cL_law 986 = .ok (.iinc 3 5, 3) := by decide +kernel
theorem dL_law_989 : decode cL_law 989 = .ok (.goto (-971), 3) := by decide +kernel
theorem dL_law_992 : decode cL_law 992 = .ok (.iconst 1, 1) := by decide +kernel
theorem dL_law_993 : decode cL_law 993 = .ok (.ireturn, 1) := by decide +kernel
end
section
/-! ===== base: checks, loops, worlds, contracts in the form that the walking program uses ===== -/
def b2i (b : Bool) : Int32 := if b = true then 1 else 0
theorem b2i_n (b : Bool) : narrow .boolean (.int (b2i b)) = .int (b2i b) := by cases b <;> decide
/-- an index that is within -/
def ix (i : Int32) (n : Nat) : Bool := !decide (i < 0) && decide (i.toNatClampNeg < n)
theorem ix_in {i : Int32} {n : Nat} (h : ix i n = true) : vp_in i n := by
  simp only [ix, Bool.and_eq_true, Bool.not_eq_true', decide_eq_false_iff_not, decide_eq_true_eq] at h
  intro q
  rcases q with q | q
  · exact h.1 q
  · omega
/-- a check: nothing, where it fails -/
def gd {α : Type} (b : Bool) (k : Option α) : Option α := if b = true then k else none
theorem gd_s {α : Type} {b : Bool} {k : Option α} {x : α} (h : gd b k = some x) : b = true ∧ k = some x := by
  cases b with
  | true => exact ⟨rfl, h⟩
  | false => exact absurd h (by simp [gd])
theorem if_t {α : Type} {c : Prop} {dc : Decidable c} {A B : Option α} {x : α} (h : (@ite _ c dc A B) = some x) (hc : c) : A = some x := by rw [if_pos hc] at h; exact h
theorem if_f {α : Type} {c : Prop} {dc : Decidable c} {A B : Option α} {x : α} (h : (@ite _ c dc A B) = some x) (hc : ¬ c) : B = some x := by rw [if_neg hc] at h; exact h
theorem bd_s {α β : Type} {o : Option α} {k : α → Option β} {x : β} (h : o.bind k = some x) : ∃ y, o = some y ∧ k y = some x := by
  cases o with
  | none => cases h
  | some y => exact ⟨y, rfl, h⟩
/-- a loop with fuel: a body goes on (inl) or comes to an end (inr) -/
def lp {σ ρ : Type} (body : σ → Option (σ ⊕ ρ)) : Nat → σ → Option ρ
  | 0, _ => none
  | n + 1, s => match body s with
    | none => none
    | some (.inl s') => lp body n s'
    | some (.inr r) => some r
theorem lp_go {σ ρ : Type} {body : σ → Option (σ ⊕ ρ)} {n : Nat} {s s' : σ} (h : body s = some (.inl s')) : lp body (n + 1) s = lp body n s' := by
  show (match body s with
    | none => none
    | some (.inl s') => lp body n s'
    | some (.inr r) => some r) = _
  rw [h]
theorem lp_end {σ ρ : Type} {body : σ → Option (σ ⊕ ρ)} {n : Nat} {s : σ} {r : ρ} (h : body s = some (.inr r)) : lp body (n + 1) s = some r := by
  show (match body s with
    | none => none
    | some (.inl s') => lp body n s'
    | some (.inr r) => some r) = _
  rw [h]
theorem lp_no {σ ρ : Type} {body : σ → Option (σ ⊕ ρ)} {n : Nat} {s : σ} (h : body s = none) : lp body (n + 1) s = none := by
  show (match body s with
    | none => none
    | some (.inl s') => lp body n s'
    | some (.inr r) => some r) = _
  rw [h]
theorem lp_W {σ ρ : Type} {body : σ → Option (σ ⊕ ρ)} (P : σ → Prop) (E : ρ → Prop) (hs : ∀ (s : σ) (x : σ ⊕ ρ), body s = some x → (∀ s', x = .inl s' → P s') → (∀ r, x = .inr r → E r) → P s) : ∀ (n : Nat) (s : σ) (r : ρ), lp body n s = some r → E r → P s := by
  intro n
  induction n with
  | zero => intro s r h; cases h
  | succ n ih =>
    intro s r h hE
    cases hb : body s with
    | none => rw [lp_no hb] at h; cases h
    | some x =>
      refine hs s x hb (fun s' e => ?_) (fun r' e => ?_)
      · subst e
        rw [lp_go hb] at h
        exact ih s' r h hE
      · subst e
        rw [lp_end hb] at h
        have : r' = r := Option.some.inj h
        subst this
        exact hE
/-- the fuel of every loop -/
def fu : Nat := 1000
/-- the array classes -/
abbrev ty5 (k : Nat → ClassId) : List (ClassId × FieldType) := [(k 0, .int), (k 1, .long), (k 2, .boolean), (k 3, .object "RainCells$Cells"), (k 4, .object "RainCells$Scene")]
/-- the links to private members of nest mates -/
def NN (U : State) : Prop := va_Nw (.methodLinkNest RX4 33 yX2_init "RainCells") U ∧ va_Nw (.methodLinkNest RX0 31 yX4_isIn "RainCells") U ∧ va_Nw (.methodLinkNest RX0 54 yX4_isPlot "RainCells") U ∧ va_Nw (.methodLinkNest RX0 64 yX4_without "RainCells") U ∧ va_Nw (.methodLinkNest RX0 67 yX4_with "RainCells") U ∧ va_Nw (.methodLinkNest RX1 60 yX4_with "RainCells") U
theorem NN.warm {s U : State} (hW : s.WarmedH U.vm) (h : NN s) : NN U := ⟨h.1.warmM hW, h.2.1.warmM hW, h.2.2.1.warmM hW, h.2.2.2.1.warmM hW, h.2.2.2.2.1.warmM hW, h.2.2.2.2.2.warmM hW⟩
theorem NN.same {s U : State} (e : s.vm = U.vm) (h : NN s) : NN U := ⟨va_Nw.same rfl e h.1, va_Nw.same rfl e h.2.1, va_Nw.same rfl e h.2.2.1, va_Nw.same rfl e h.2.2.2.1, va_Nw.same rfl e h.2.2.2.2.1, va_Nw.same rfl e h.2.2.2.2.2⟩
/-- what a method that only reads needs; what one that writes needs -/
def RB (D : va_G) (k : Nat → ClassId) (w : va_W) : State → Prop := fun U => va_P D vwCl w U.heap ∧ va_K D vwCl (ty5 k) U ∧ NN U
def MB (D : va_G) (k : Nat → ClassId) (w : va_W) : State → Prop := fun U => va_P D vwCl w U.heap ∧ va_K D vwCl (ty5 k) U ∧ NN U ∧ va_D (fun _ => True) w
def AD (w : va_W) (q : Nat) : Prop := ∃ (j : Nat) (e : va_E), w[j]? = some (q, e)
def QR (ov : Option Value) : Array Value → State → Outcome → State → Prop := fun _ st oc t => oc = .returned ov ∧ t.heap = st.heap
def QM (D : va_G) (w w' : va_W) (ov : Option Value) : Array Value → State → Outcome → State → Prop := fun _ st oc t => oc = .returned ov ∧ va_P D vwCl w' t.heap ∧ va_F (AD w) st t
theorem RB.blind {D : va_G} {k : Nat → ClassId} {w : va_W} {av : List Value} : FrameBlind (va_Pc av (RB D k w)) := by
  intro a U g mk q
  obtain ⟨q0, qP, qK, qN⟩ := q
  exact ⟨q0, qP, va_K.moved (u := U) (U := U.calling g mk a) (Vm.Alike.refl U.vm) qK, NN.same (U := U.calling g mk a) rfl qN⟩
theorem MB.blind {D : va_G} {k : Nat → ClassId} {w : va_W} {av : List Value} : FrameBlind (va_Pc av (MB D k w)) := by
  intro a U g mk q
  obtain ⟨q0, qP, qK, qN, qD⟩ := q
  exact ⟨q0, qP, va_K.moved (u := U) (U := U.calling g mk a) (Vm.Alike.refl U.vm) qK, NN.same (U := U.calling g mk a) rfl qN, qD⟩
/-! the start of a method's walk -/
theorem met_Ri {l : Launch} {y : MethodName} {ws ws' : List Cond} {rm : Room} {cc : ByteArray} {maxL : Nat} {av : List Value} {D : va_G} {k : Nat → ClassId} {w : va_W} {r : Int32} (hy : plainName y.cls = true) (hw : ws = Cond.code y cc maxL (some .int) :: ws') (hlen : (lg_sl av).length ≤ maxL)
    (body : ∀ (p : Program) (e : Env) (s : State) (m : MethodId) (below : List Frame) (meth : Method) (c : Code) (Q : State → Prop) (args : Array Value) (ls : Array Slot), p.tables.exec = Jvm.exec → c.code = cc → c.maxLocals = maxL → s.vm.findClass y.cls = some m.cls → (∀ w ∈ ws, w.before args s = true) → va_P D vwCl w s.heap → va_K D vwCl (ty5 k) s → NN s → lv_has ls maxL (lv_args 0 av) →
      (∀ (pc : Nat) (ls : Array Slot), decode cc pc = .ok (.ireturn, 1) → W p l e rm s m args below meth c s.heap [] 0 0 Q (F0 m pc ls [.int r])) → W p l e rm s m args below meth c s.heap [] 0 0 Q (F0 m 0 ls [])) :
    Met l y ws rm (va_Pc av (RB D k w)) (QR (some (.int r))) 0 0 (fun _ => False) := by
  refine Met.ofW (cc := cc) (maxL := maxL) (ret := some .int) hy hw ?_
  intro p e s m args below meth c s₁ B hml hv
  obtain ⟨rfl, hP, hK, hN⟩ := hv
  have hlocks := B.notSynchronized
  rw [lg_entry_eq]
  exact body p e s m below meth c _ _ _ B.exec B.bytes hml (findClass_of_methodNamed B.named) (atoms_spec (ws := ws) B.pre) hP hK hN (lv_entry av hlen) (fun pc ls hd => W.iret B.exec B.bytes B.returns (fun t ht _ => ⟨rfl, ht⟩) (fun q h => by cases h) hd)
theorem met_Rz {l : Launch} {y : MethodName} {ws ws' : List Cond} {rm : Room} {cc : ByteArray} {maxL : Nat} {av : List Value} {D : va_G} {k : Nat → ClassId} {w : va_W} {r : Bool} (hy : plainName y.cls = true) (hw : ws = Cond.code y cc maxL (some .boolean) :: ws') (hlen : (lg_sl av).length ≤ maxL)
    (body : ∀ (p : Program) (e : Env) (s : State) (m : MethodId) (below : List Frame) (meth : Method) (c : Code) (Q : State → Prop) (args : Array Value) (ls : Array Slot), p.tables.exec = Jvm.exec → c.code = cc → c.maxLocals = maxL → s.vm.findClass y.cls = some m.cls → (∀ w ∈ ws, w.before args s = true) → va_P D vwCl w s.heap → va_K D vwCl (ty5 k) s → NN s → lv_has ls maxL (lv_args 0 av) →
      (∀ (pc : Nat) (ls : Array Slot), decode cc pc = .ok (.ireturn, 1) → W p l e rm s m args below meth c s.heap [] 0 0 Q (F0 m pc ls [.int (b2i r)])) → W p l e rm s m args below meth c s.heap [] 0 0 Q (F0 m 0 ls [])) :
    Met l y ws rm (va_Pc av (RB D k w)) (QR (some (.int (b2i r)))) 0 0 (fun _ => False) := by
  refine Met.ofW (cc := cc) (maxL := maxL) (ret := some .boolean) hy hw ?_
  intro p e s m args below meth c s₁ B hml hv
  obtain ⟨rfl, hP, hK, hN⟩ := hv
  have hlocks := B.notSynchronized
  rw [lg_entry_eq]
  exact body p e s m below meth c _ _ _ B.exec B.bytes hml (findClass_of_methodNamed B.named) (atoms_spec (ws := ws) B.pre) hP hK hN (lv_entry av hlen) (fun pc ls hd => W.zret B.exec B.bytes B.returns (b2i_n r) (fun t ht _ => ⟨rfl, ht⟩) (fun q h => by cases h) hd)
theorem AD.self {w : va_W} {B : Nat → Prop} (h : va_D B w) : va_D (AD w) w := ⟨h.1, fun j q hj => ⟨j, q.2, hj⟩⟩
theorem met_Mi {l : Launch} {y : MethodName} {ws ws' : List Cond} {rm : Room} {cc : ByteArray} {maxL : Nat} {av : List Value} {D : va_G} {k : Nat → ClassId} {w w' : va_W} {r : Int32} (hy : plainName y.cls = true) (hw : ws = Cond.code y cc maxL (some .int) :: ws') (hlen : (lg_sl av).length ≤ maxL)
    (body : ∀ (p : Program) (e : Env) (s : State) (m : MethodId) (below : List Frame) (meth : Method) (c : Code) (Q : State → Prop) (args : Array Value) (ls : Array Slot), p.tables.exec = Jvm.exec → c.code = cc → c.maxLocals = maxL → s.vm.findClass y.cls = some m.cls → (∀ w ∈ ws, w.before args s = true) → va_P D vwCl w s.heap → va_K D vwCl (ty5 k) s → NN s → va_D (AD w) w → lv_has ls maxL (lv_args 0 av) →
      (∀ (pc : Nat) (ls : Array Slot) (H : Heap) (locs : List Loc), decode cc pc = .ok (.ireturn, 1) → va_P D vwCl w' H → va_S (AD w) s.heap H locs → W p l e rm s m args below meth c H locs 0 0 Q (F0 m pc ls [.int r])) → W p l e rm s m args below meth c s.heap [] 0 0 Q (F0 m 0 ls [])) :
    Met l y ws rm (va_Pc av (MB D k w)) (QM D w w' (some (.int r))) 0 0 (AD w) := by
  refine Met.ofW (cc := cc) (maxL := maxL) (ret := some .int) hy hw ?_
  intro p e s m args below meth c s₁ B hml hv
  obtain ⟨rfl, hP, hK, hN, hD⟩ := hv
  have hlocks := B.notSynchronized
  rw [lg_entry_eq]
  exact body p e s m below meth c _ _ _ B.exec B.bytes hml (findClass_of_methodNamed B.named) (atoms_spec (ws := ws) B.pre) hP hK hN (AD.self hD) (lv_entry av hlen) (fun pc ls H locs hd hP' hS => W.iret B.exec B.bytes B.returns (fun t ht _ => ⟨rfl, by rw [ht]; exact hP', hS.F ht⟩) hS.2.2 hd)
theorem met_Mz {l : Launch} {y : MethodName} {ws ws' : List Cond} {rm : Room} {cc : ByteArray} {maxL : Nat} {av : List Value} {D : va_G} {k : Nat → ClassId} {w w' : va_W} {r : Bool} (hy : plainName y.cls = true) (hw : ws = Cond.code y cc maxL (some .boolean) :: ws') (hlen : (lg_sl av).length ≤ maxL)
    (body : ∀ (p : Program) (e : Env) (s : State) (m : MethodId) (below : List Frame) (meth : Method) (c : Code) (Q : State → Prop) (args : Array Value) (ls : Array Slot), p.tables.exec = Jvm.exec → c.code = cc → c.maxLocals = maxL → s.vm.findClass y.cls = some m.cls → (∀ w ∈ ws, w.before args s = true) → va_P D vwCl w s.heap → va_K D vwCl (ty5 k) s → NN s → va_D (AD w) w → lv_has ls maxL (lv_args 0 av) →
      (∀ (pc : Nat) (ls : Array Slot) (H : Heap) (locs : List Loc), decode cc pc = .ok (.ireturn, 1) → va_P D vwCl w' H → va_S (AD w) s.heap H locs → W p l e rm s m args below meth c H locs 0 0 Q (F0 m pc ls [.int (b2i r)])) → W p l e rm s m args below meth c s.heap [] 0 0 Q (F0 m 0 ls [])) :
    Met l y ws rm (va_Pc av (MB D k w)) (QM D w w' (some (.int (b2i r)))) 0 0 (AD w) := by
  refine Met.ofW (cc := cc) (maxL := maxL) (ret := some .boolean) hy hw ?_
  intro p e s m args below meth c s₁ B hml hv
  obtain ⟨rfl, hP, hK, hN, hD⟩ := hv
  have hlocks := B.notSynchronized
  rw [lg_entry_eq]
  exact body p e s m below meth c _ _ _ B.exec B.bytes hml (findClass_of_methodNamed B.named) (atoms_spec (ws := ws) B.pre) hP hK hN (AD.self hD) (lv_entry av hlen) (fun pc ls H locs hd hP' hS => W.zret B.exec B.bytes B.returns (b2i_n r) (fun t ht _ => ⟨rfl, by rw [ht]; exact hP', hS.F ht⟩) hS.2.2 hd)
theorem met_Mv {l : Launch} {y : MethodName} {ws ws' : List Cond} {rm : Room} {cc : ByteArray} {maxL : Nat} {av : List Value} {D : va_G} {k : Nat → ClassId} {w w' : va_W} (hy : plainName y.cls = true) (hw : ws = Cond.code y cc maxL none :: ws') (hlen : (lg_sl av).length ≤ maxL)
    (body : ∀ (p : Program) (e : Env) (s : State) (m : MethodId) (below : List Frame) (meth : Method) (c : Code) (Q : State → Prop) (args : Array Value) (ls : Array Slot), p.tables.exec = Jvm.exec → c.code = cc → c.maxLocals = maxL → s.vm.findClass y.cls = some m.cls → (∀ w ∈ ws, w.before args s = true) → va_P D vwCl w s.heap → va_K D vwCl (ty5 k) s → NN s → va_D (AD w) w → lv_has ls maxL (lv_args 0 av) →
      (∀ (pc : Nat) (ls : Array Slot) (H : Heap) (locs : List Loc), decode cc pc = .ok (.return_, 1) → va_P D vwCl w' H → va_S (AD w) s.heap H locs → W p l e rm s m args below meth c H locs 0 0 Q (F0 m pc ls [])) → W p l e rm s m args below meth c s.heap [] 0 0 Q (F0 m 0 ls [])) :
    Met l y ws rm (va_Pc av (MB D k w)) (QM D w w' none) 0 0 (AD w) := by
  refine Met.ofW (cc := cc) (maxL := maxL) (ret := none) hy hw ?_
  intro p e s m args below meth c s₁ B hml hv
  obtain ⟨rfl, hP, hK, hN, hD⟩ := hv
  have hlocks := B.notSynchronized
  rw [lg_entry_eq]
  exact body p e s m below meth c _ _ _ B.exec B.bytes hml (findClass_of_methodNamed B.named) (atoms_spec (ws := ws) B.pre) hP hK hN (AD.self hD) (lv_entry av hlen) (fun pc ls H locs hd hP' hS => W.vret B.exec B.bytes B.returns (fun t ht _ => ⟨rfl, by rw [ht]; exact hP', hS.F ht⟩) hS.2.2 hd)
theorem met_Mr {l : Launch} {y : MethodName} {ws ws' : List Cond} {rm : Room} {cc : ByteArray} {maxL : Nat} {av : List Value} {D : va_G} {k : Nat → ClassId} {w w' : va_W} {r : Nat} {cn : String} (hy : plainName y.cls = true) (hw : ws = Cond.code y cc maxL (some (.object cn)) :: ws') (hlen : (lg_sl av).length ≤ maxL)
    (body : ∀ (p : Program) (e : Env) (s : State) (m : MethodId) (below : List Frame) (meth : Method) (c : Code) (Q : State → Prop) (args : Array Value) (ls : Array Slot), p.tables.exec = Jvm.exec → c.code = cc → c.maxLocals = maxL → s.vm.findClass y.cls = some m.cls → (∀ w ∈ ws, w.before args s = true) → va_P D vwCl w s.heap → va_K D vwCl (ty5 k) s → NN s → va_D (AD w) w → lv_has ls maxL (lv_args 0 av) →
      (∀ (pc : Nat) (ls : Array Slot) (H : Heap) (locs : List Loc), decode cc pc = .ok (.areturn, 1) → va_P D vwCl w' H → va_S (AD w) s.heap H locs → W p l e rm s m args below meth c H locs 0 0 Q (F0 m pc ls [.ref r])) → W p l e rm s m args below meth c s.heap [] 0 0 Q (F0 m 0 ls [])) :
    Met l y ws rm (va_Pc av (MB D k w)) (QM D w w' (some (.ref r))) 0 0 (AD w) := by
  refine Met.ofW (cc := cc) (maxL := maxL) (ret := some (.object cn)) hy hw ?_
  intro p e s m args below meth c s₁ B hml hv
  obtain ⟨rfl, hP, hK, hN, hD⟩ := hv
  have hlocks := B.notSynchronized
  rw [lg_entry_eq]
  exact body p e s m below meth c _ _ _ B.exec B.bytes hml (findClass_of_methodNamed B.named) (atoms_spec (ws := ws) B.pre) hP hK hN (AD.self hD) (lv_entry av hlen) (fun pc ls H locs hd hP' hS => W.aret B.exec B.bytes B.returns (Or.inl ⟨_, rfl⟩) (Or.inr ⟨_, rfl⟩) (fun t ht _ => ⟨rfl, by rw [ht]; exact hP', hS.F ht⟩) hS.2.2 hd)
end
section
/-! ===== calls, in the form that the walking program uses ===== -/
theorem va_D.addr {A : Nat → Prop} {w0 w1 : va_W} (h : va_D A w0) (e : w1.map Prod.fst = w0.map Prod.fst) : va_D A w1 := by
  have key : ∀ (j : Nat) (q : Nat × va_E), w1[j]? = some q → ∃ q0 : Nat × va_E, w0[j]? = some q0 ∧ q0.1 = q.1 := by
    intro j q hj
    have h1 : (w1.map Prod.fst)[j]? = some q.1 := by rw [List.getElem?_map, hj]; rfl
    rw [e, List.getElem?_map] at h1
    cases h2 : w0[j]? with
    | none => rw [h2] at h1; cases h1
    | some q0 => rw [h2] at h1; exact ⟨q0, rfl, Option.some.inj h1⟩
  refine ⟨fun i j x y hx hy hxy => ?_, fun j q hj => ?_⟩
  · obtain ⟨x0, a1, a2⟩ := key i x hx
    obtain ⟨y0, b1, b2⟩ := key j y hy
    exact h.1 i j x0 y0 a1 b1 (a2.trans (hxy.trans b2.symm))
  · obtain ⟨q0, a1, a2⟩ := key j q hj
    rw [← a2]; exact h.2 j q0 a1
/-- a callee's part wc of a world w0, and what both are behind the call -/
def Sp (A : Nat → Prop) (w0 wc w1 wc' : va_W) : Prop := (∀ (i : Nat) (q : Nat × va_E), wc[i]? = some q → ∃ j : Nat, w0[j]? = some q) ∧ (va_D A w0 → va_D (fun _ => True) wc) ∧ (∀ (j : Nat) (q : Nat × va_E), w1[j]? = some q → (∃ i : Nat, wc'[i]? = some q) ∨ ((∃ j' : Nat, w0[j']? = some q) ∧ (va_D A w0 → ¬ AD wc q.1))) ∧ w1.map Prod.fst = w0.map Prod.fst
theorem at_map {is : List Nat} {w w' : va_W} (hs : is.map (fun i => w[i]?) = w'.map some) {i : Nat} {q : Nat × va_E} (hq : w'[i]? = some q) : ∃ j, is[i]? = some j ∧ w[j]? = some q := by
  have h1 : (is.map (fun i => w[i]?))[i]? = some (some q) := by rw [hs, List.getElem?_map, hq]; rfl
  rw [List.getElem?_map] at h1
  cases hi : is[i]? with
  | none => rw [hi] at h1; cases h1
  | some j => rw [hi] at h1; exact ⟨j, rfl, Option.some.inj h1⟩
theorem Sp.idx {A : Nat → Prop} {w0 wc w1 wc' : va_W} {N : Nat} (is isR : List Nat) (hn : va_nd is = true) (hsub : is.map (fun i => w0[i]?) = wc.map some) (h1 : is.map (fun i => w1[i]?) = wc'.map some) (h2 : isR.map (fun i => w1[i]?) = isR.map (fun i => w0[i]?)) (hl : w1.length ≤ N) (h3 : (List.range N).all (fun j => is.contains j || isR.contains j) = true) (h4 : isR.all (fun j => !is.contains j) = true) (h5 : w1.map Prod.fst = w0.map Prod.fst) : Sp A w0 wc w1 wc' := by
  refine ⟨fun i q hq => ?_, fun hD => (hD.sub is hn hsub).weaken (fun _ _ _ _ => trivial), fun j q hj => ?_, h5⟩
  · obtain ⟨j, -, h⟩ := at_map hsub hq
    exact ⟨j, h⟩
  · have hjl : j < N := Nat.lt_of_lt_of_le (List.getElem?_eq_some_iff.mp hj).1 hl
    have h6 := List.all_eq_true.mp h3 j (List.mem_range.mpr hjl)
    rw [Bool.or_eq_true] at h6
    rcases h6 with h6 | h6
    · left
      have hm : j ∈ is := by simpa using h6
      obtain ⟨i, hi⟩ := List.getElem?_of_mem hm
      have h7 : (is.map (fun i => w1[i]?))[i]? = some (some q) := by rw [List.getElem?_map, hi]; show some (w1[j]?) = _; rw [hj]
      rw [h1, List.getElem?_map] at h7
      cases hc : wc'[i]? with
      | none => rw [hc] at h7; cases h7
      | some z => rw [hc] at h7; exact ⟨i, by rw [hc]; exact congrArg some (Option.some.inj (Option.some.inj h7))⟩
    · right
      have hm : j ∈ isR := by simpa using h6
      obtain ⟨i, hi⟩ := List.getElem?_of_mem hm
      have h7 : (isR.map (fun i => w1[i]?))[i]? = some (w1[j]?) := by rw [List.getElem?_map, hi]; rfl
      rw [h2, List.getElem?_map, hi] at h7
      have h8 : w0[j]? = some q := by rw [← hj]; exact Option.some.inj h7
      refine ⟨⟨j, h8⟩, fun hD ha => ?_⟩
      obtain ⟨z, e, hz⟩ := ha
      obtain ⟨j', a1, a2⟩ := at_map hsub hz
      have hjj := hD.1 j j' _ _ h8 a2 rfl
      have h9 := List.all_eq_true.mp h4 j hm
      subst hjj
      have : j ∈ is := List.mem_of_getElem? a1
      simp [this] at h9
theorem Sp.join {A : Nat → Prop} {D : va_G} {cl : List vw_C} {w0 wc w1 wc' : va_W} {H H1 : Heap} (S : Sp A w0 wc w1 wc') (hP : va_P D cl w0 H) (hD : va_D A w0) (hfr : ∀ q, q < H.size → ¬ AD wc q → H1[q]? = H[q]?) (hP1 : va_P D cl wc' H1) : va_P D cl w1 H1 := by
  intro j q hj
  rcases S.2.2.1 j q hj with ⟨i, hi⟩ | ⟨⟨j', hj'⟩, ha⟩
  · exact hP1 i q hi
  · exact (hP j' q hj').kept (hfr q.1 (hP j' q hj').lt (ha hD))
theorem Sp.part {A : Nat → Prop} {D : va_G} {cl : List vw_C} {w0 wc w1 wc' : va_W} {H : Heap} (S : Sp A w0 wc w1 wc') (hP : va_P D cl w0 H) : va_P D cl wc H := fun i q hi => by
  obtain ⟨j, hj⟩ := S.1 i q hi
  exact hP j q hj
theorem Sp.free {A : Nat → Prop} {w0 wc w1 wc' : va_W} (S : Sp A w0 wc w1 wc') (hD : va_D A w0) : ∀ q, AD wc q → A q := fun q ⟨i, e, h⟩ => by
  obtain ⟨j, hj⟩ := S.1 i _ h
  exact hD.2 j _ hj
section CALLS
variable {p : Program} {l : Launch} {e : Env} {R : Room} {s : State} {m : MethodId} {args : Array Value} {below : List Frame} {meth : Method} {c : Code} {H : Heap} {locs : List Loc} {cells slots : Nat} {Q : State → Prop}
variable {cc bytes : ByteArray} {nL maxL index n pc : Nat} {own C : String} {y : MethodName} {ret : Option FieldType} {rm : Room} {Ts ws ws' : List Cond} {D : va_G} {k : Nat → ClassId} {w wc wc' w1 : va_W} {b : Nat} {As rest st : List Value} {ls : Array Slot} {v : Value} {A : Nat → Prop} {H0 : Heap}
theorem cs_R {a : Array Value} (hr : CallRun p l e R s m args below meth c H locs cells slots 0 0 (F0 m pc ls st) rest (QR (some v) a) (fun _ => False)) (kk : W p l e R s m args below meth c H locs cells slots Q (F0 m (pc + 3) ls (v :: rest))) : W p l e R s m args below meth c H locs cells slots Q (F0 m pc ls st) := by
  intro T hT X
  obtain ⟨v', st₀, t, T', L, h0, X', hL, e1, ⟨hv, hh⟩, st⟩ := hr T hT X
  cases hv
  obtain ⟨t2, a1, b1⟩ := kk T' (by rw [e1, hh, h0]) (Stand.forget X' (fun q h => (hL q h).elim))
  exact ⟨t2, st t2 a1, b1⟩
theorem cR_V (hx : p.tables.exec = Jvm.exec) (hb : c.code = cc) (hml : c.maxLocals = nL) (hown : s.vm.findClass own = some m.cls) (hts : ∀ w ∈ Ts, w.before args s = true) (hK : va_K D vwCl (ty5 k) s) (hN : NN s) (hl : ls.size = nL)
    (hM : Met l y ws rm (va_Pc (.ref b :: As) (RB D k w)) (QR (some v)) 0 0 (fun _ => False)) (hG : GoodIn Ts (wsV own index C y ws)) (hw : ws = Cond.code y bytes maxL ret :: ws') (hd : y.cls = C ∧ y.cls ≠ "java/lang/invoke/MethodHandle" ∧ y.cls ≠ "java/lang/invoke/VarHandle" ∧ (parseMethodDescriptor y.desc).map (fun d => d.parameters.length) = some n)
    (hR : (rm.cells = 0 ∧ rm.slots = 0) ∧ rm.frames + 1 ≤ R.frames ∧ 8 + (maxL + 11) + rm.locals ≤ R.locals) (hP : va_P D vwCl w H) (q0 ci : Nat) {q : vw_C} {fs : List Value} (hc : vwCl[ci]? = some q) (hC : q.1 = C) (he : w[q0]? = some (b, .inr (ci, fs)))
    (hn : As.length = n) (hst : st = As.reverse ++ .ref b :: rest) (hW : (rest.map fun v => v.category).sum ≤ 8) (hdg : decode cc pc = .ok (.invokevirtual index, 3)) (hcs : cells ≤ R.cells ∧ slots ≤ R.slots)
    (kk : W p l e R s m args below meth c H locs cells slots Q (F0 m (pc + 3) ls (v :: rest))) : W p l e R s m args below meth c H locs cells slots Q (F0 m pc ls st) := by
  subst hst
  subst hC
  exact cs_R (W.runV (As := As) (rest := rest) ⟨hx, hb, hml, hown, hts⟩ hM (cwV n hts hG hw hR.1.1 hR.1.2 hd hR.2) ⟨RB.blind, va_recv hK hP hc he, fun U hU hW => ⟨rfl, by rw [hU]; exact hP, va_K.moved hW.alike hK, hN.warm hW⟩⟩ rfl hn hl rfl (lv_room (rest := As.reverse ++ .ref b :: rest) hW) hdg hcs) kk
theorem cR_S (hx : p.tables.exec = Jvm.exec) (hb : c.code = cc) (hml : c.maxLocals = nL) (hown : s.vm.findClass own = some m.cls) (hts : ∀ w ∈ Ts, w.before args s = true) (hK : va_K D vwCl (ty5 k) s) (hN : NN s) (hl : ls.size = nL)
    (hM : Met l y ws rm (va_Pc As (RB D k w)) (QR (some v)) 0 0 (fun _ => False)) (hG : GoodIn Ts (va_wsS own index y ws)) (hw : ws = Cond.code y bytes maxL ret :: ws') (hd : y.cls ≠ "java/lang/invoke/MethodHandle" ∧ y.cls ≠ "java/lang/invoke/VarHandle" ∧ (parseMethodDescriptor y.desc).map (fun d => d.parameters.length) = some n)
    (hR : (rm.cells = 0 ∧ rm.slots = 0) ∧ rm.frames + 1 ≤ R.frames ∧ 8 + (maxL + 11) + rm.locals ≤ R.locals) (hP : va_P D vwCl w H)
    (hn : As.length = n) (hst : st = As.reverse ++ rest) (hW : (rest.map fun v => v.category).sum ≤ 8) (hdg : decode cc pc = .ok (.invokestatic index, 3)) (hcs : cells ≤ R.cells ∧ slots ≤ R.slots)
    (kk : W p l e R s m args below meth c H locs cells slots Q (F0 m (pc + 3) ls (v :: rest))) : W p l e R s m args below meth c H locs cells slots Q (F0 m pc ls st) := by
  subst hst
  exact cs_R (W.runS (As := As) (rest := rest) ⟨hx, hb, hml, hown, hts⟩ hM (va_cwS n hts hG hw hR.1.1 hR.1.2 hd hR.2) ⟨RB.blind, fun U hU hW => ⟨rfl, by rw [hU]; exact hP, va_K.moved hW.alike hK, hN.warm hW⟩⟩ rfl hn hl rfl (lv_room (rest := As.reverse ++ rest) hW) hdg hcs) kk
theorem cR_N {host : String} (hx : p.tables.exec = Jvm.exec) (hb : c.code = cc) (hml : c.maxLocals = nL) (hown : s.vm.findClass own = some m.cls) (hts : ∀ w ∈ Ts, w.before args s = true) (hK : va_K D vwCl (ty5 k) s) (hN : NN s) (hl : ls.size = nL)
    (hM : Met l y ws rm (va_Pc As (RB D k w)) (QR (some v)) 0 0 (fun _ => False)) (hnw : va_Nw (.methodLinkNest own index y host) s) (hG : GoodIn Ts ws) (hw : ws = Cond.code y bytes maxL ret :: ws') (hstt : (Cond.static y).before args s = true) (hini : (Cond.initialized y.cls).before args s = true) (hd : y.cls ≠ "java/lang/invoke/MethodHandle" ∧ y.cls ≠ "java/lang/invoke/VarHandle" ∧ (parseMethodDescriptor y.desc).map (fun d => d.parameters.length) = some n)
    (hR : (rm.cells = 0 ∧ rm.slots = 0) ∧ rm.frames + 1 ≤ R.frames ∧ 8 + (maxL + 11) + rm.locals ≤ R.locals) (hP : va_P D vwCl w H)
    (hn : As.length = n) (hst : st = As.reverse ++ rest) (hW : (rest.map fun v => v.category).sum ≤ 8) (hdg : decode cc pc = .ok (.invokestatic index, 3)) (hcs : cells ≤ R.cells ∧ slots ≤ R.slots)
    (kk : W p l e R s m args below meth c H locs cells slots Q (F0 m (pc + 3) ls (v :: rest))) : W p l e R s m args below meth c H locs cells slots Q (F0 m pc ls st) := by
  subst hst
  exact cs_R (va_runSN (As := As) (rest := rest) ⟨hx, hb, hml, hown, hts⟩ hM ⟨va_cnB n hts hG hw hR.1.1 hR.1.2 hnw hini hd hR.2, hstt, trivial⟩ ⟨RB.blind, fun U hU hW => ⟨rfl, by rw [hU]; exact hP, va_K.moved hW.alike hK, hN.warm hW⟩⟩ rfl hn hl rfl (lv_room (rest := As.reverse ++ rest) hW) hdg hcs).run kk
theorem cs_M {a : Array Value} {ov : Option Value} (S : Sp A w wc w1 wc') (hP : va_P D vwCl w H) (hD : va_D A w) (hS : va_S A H0 H locs) (hr : CallRun p l e R s m args below meth c H locs cells slots 0 0 (F0 m pc ls st) rest (QM D wc wc' ov a) (AD wc))
    (kk : ∀ (H1 : Heap) (locs1 : List Loc), va_P D vwCl w1 H1 → va_D A w1 → va_S A H0 H1 locs1 → W p l e R s m args below meth c H1 locs1 cells slots Q (F0 m (pc + 3) ls (ov.toList ++ rest))) : W p l e R s m args below meth c H locs cells slots Q (F0 m pc ls st) := by
  intro T hT X
  obtain ⟨v', st₀, t, T', L, h0, X', hL, e1, ⟨hv, hP1, hz, hk⟩, st⟩ := hr T hT X
  cases hv
  rw [h0] at hz hk
  obtain ⟨t2, a1, b1⟩ := kk T'.heap (locs ++ L) (by rw [e1]; exact S.join hP hD hk hP1) (hD.addr S.2.2.2)
    ⟨Nat.le_trans hS.1 (by rw [e1]; exact hz), fun q h1 h2 => by rw [e1, hk q (Nat.lt_of_lt_of_le h1 hS.1) (fun z => h2 (S.free hD q z))]; exact hS.2.1 q h1 h2, fun q hq => by
      rcases List.mem_append.mp hq with h | h
      · exact hS.2.2 q h
      · exact S.free hD _ (hL q h)⟩ T' rfl X'
  exact ⟨t2, st t2 a1, b1⟩
theorem cM_V {ov : Option Value} (hx : p.tables.exec = Jvm.exec) (hb : c.code = cc) (hml : c.maxLocals = nL) (hown : s.vm.findClass own = some m.cls) (hts : ∀ w ∈ Ts, w.before args s = true) (hK : va_K D vwCl (ty5 k) s) (hN : NN s) (hl : ls.size = nL) (hP : va_P D vwCl w H) (hD : va_D A w) (hS : va_S A H0 H locs) (S : Sp A w wc w1 wc')
    (hM : Met l y ws rm (va_Pc (.ref b :: As) (MB D k wc)) (QM D wc wc' ov) 0 0 (AD wc)) (hG : GoodIn Ts (wsV own index C y ws)) (hw : ws = Cond.code y bytes maxL ret :: ws') (hd : y.cls = C ∧ y.cls ≠ "java/lang/invoke/MethodHandle" ∧ y.cls ≠ "java/lang/invoke/VarHandle" ∧ (parseMethodDescriptor y.desc).map (fun d => d.parameters.length) = some n)
    (hR : (rm.cells = 0 ∧ rm.slots = 0) ∧ rm.frames + 1 ≤ R.frames ∧ 8 + (maxL + 11) + rm.locals ≤ R.locals) (q0 ci : Nat) {q : vw_C} {fs : List Value} (hc : vwCl[ci]? = some q) (hC : q.1 = C) (he : wc[q0]? = some (b, .inr (ci, fs)))
    (hn : As.length = n) (hst : st = As.reverse ++ .ref b :: rest) (hW : (rest.map fun v => v.category).sum ≤ 8) (hdg : decode cc pc = .ok (.invokevirtual index, 3)) (hcs : cells ≤ R.cells ∧ slots ≤ R.slots)
    (kk : ∀ (H1 : Heap) (locs1 : List Loc), va_P D vwCl w1 H1 → va_D A w1 → va_S A H0 H1 locs1 → W p l e R s m args below meth c H1 locs1 cells slots Q (F0 m (pc + 3) ls (ov.toList ++ rest))) : W p l e R s m args below meth c H locs cells slots Q (F0 m pc ls st) := by
  subst hst
  subst hC
  have hPc := S.part hP
  exact cs_M S hP hD hS (W.runV (As := As) (rest := rest) ⟨hx, hb, hml, hown, hts⟩ hM (cwV n hts hG hw hR.1.1 hR.1.2 hd hR.2) ⟨MB.blind, va_recv hK hPc hc he, fun U hU hW => ⟨rfl, by rw [hU]; exact hPc, va_K.moved hW.alike hK, hN.warm hW, S.2.1 hD⟩⟩ rfl hn hl rfl (lv_room (rest := As.reverse ++ .ref b :: rest) hW) hdg hcs) kk
end CALLS
/-- a void call, and one with an answer, as the rows behind them want it -/
theorem tl_n {rest : List Value} : (none : Option Value).toList ++ rest = rest := rfl
end
