/-! ===== base: checks, loops, worlds, contracts in the form that the walking program uses ===== -/
def b2i (b : Bool) : Int32 := if b = true then 1 else 0
theorem b2i_n (b : Bool) : narrow .boolean (.int (b2i b)) = .int (b2i b) := by cases b <;> decide
/-- an index that is within -/
def ix (i : Int32) (n : Nat) : Bool := !decide (i < 0) && decide (i.toNatClampNeg < n)
theorem ix_in {i : Int32} {n : Nat} (h : ix i n = true) : vp_in i n := by
  simp only [ix, Bool.and_eq_true, Bool.not_eq_true', decide_eq_false_iff_not, decide_eq_true_eq] at h
  intro q
  rcases q with q | q
  · exact h.1 q
  · omega
/-- a check: nothing, where it fails -/
def gd {α : Type} (b : Bool) (k : Option α) : Option α := if b = true then k else none
theorem gd_s {α : Type} {b : Bool} {k : Option α} {x : α} (h : gd b k = some x) : b = true ∧ k = some x := by
  cases b with
  | true => exact ⟨rfl, h⟩
  | false => exact absurd h (by simp [gd])
theorem if_t {α : Type} {c : Prop} {dc : Decidable c} {A B : Option α} {x : α} (h : (@ite _ c dc A B) = some x) (hc : c) : A = some x := by rw [if_pos hc] at h; exact h
theorem if_f {α : Type} {c : Prop} {dc : Decidable c} {A B : Option α} {x : α} (h : (@ite _ c dc A B) = some x) (hc : ¬ c) : B = some x := by rw [if_neg hc] at h; exact h
theorem bd_s {α β : Type} {o : Option α} {k : α → Option β} {x : β} (h : o.bind k = some x) : ∃ y, o = some y ∧ k y = some x := by
  cases o with
  | none => cases h
  | some y => exact ⟨y, rfl, h⟩
/-- a loop with fuel: a body goes on (inl) or comes to an end (inr) -/
def lp {σ ρ : Type} (body : σ → Option (σ ⊕ ρ)) : Nat → σ → Option ρ
  | 0, _ => none
  | n + 1, s => match body s with
    | none => none
    | some (.inl s') => lp body n s'
    | some (.inr r) => some r
theorem lp_go {σ ρ : Type} {body : σ → Option (σ ⊕ ρ)} {n : Nat} {s s' : σ} (h : body s = some (.inl s')) : lp body (n + 1) s = lp body n s' := by
  show (match body s with
    | none => none
    | some (.inl s') => lp body n s'
    | some (.inr r) => some r) = _
  rw [h]
theorem lp_end {σ ρ : Type} {body : σ → Option (σ ⊕ ρ)} {n : Nat} {s : σ} {r : ρ} (h : body s = some (.inr r)) : lp body (n + 1) s = some r := by
  show (match body s with
    | none => none
    | some (.inl s') => lp body n s'
    | some (.inr r) => some r) = _
  rw [h]
theorem lp_no {σ ρ : Type} {body : σ → Option (σ ⊕ ρ)} {n : Nat} {s : σ} (h : body s = none) : lp body (n + 1) s = none := by
  show (match body s with
    | none => none
    | some (.inl s') => lp body n s'
    | some (.inr r) => some r) = _
  rw [h]
theorem lp_W {σ ρ : Type} {body : σ → Option (σ ⊕ ρ)} (P : σ → Prop) (E : ρ → Prop) (hs : ∀ (s : σ) (x : σ ⊕ ρ), body s = some x → (∀ s', x = .inl s' → P s') → (∀ r, x = .inr r → E r) → P s) : ∀ (n : Nat) (s : σ) (r : ρ), lp body n s = some r → E r → P s := by
  intro n
  induction n with
  | zero => intro s r h; cases h
  | succ n ih =>
    intro s r h hE
    cases hb : body s with
    | none => rw [lp_no hb] at h; cases h
    | some x =>
      refine hs s x hb (fun s' e => ?_) (fun r' e => ?_)
      · subst e
        rw [lp_go hb] at h
        exact ih s' r h hE
      · subst e
        rw [lp_end hb] at h
        have : r' = r := Option.some.inj h
        subst this
        exact hE
/-- the fuel of every loop -/
def fu : Nat := 1000
/-- the array classes -/
abbrev ty5 (k : Nat → ClassId) : List (ClassId × FieldType) := [(k 0, .int), (k 1, .long), (k 2, .boolean), (k 3, .object "RainCells$Cells"), (k 4, .object "RainCells$Scene")]
/-- the links to private members of nest mates -/
def NN (U : State) : Prop := va_Nw (.methodLinkNest RX4 33 yX2_init "RainCells") U ∧ va_Nw (.methodLinkNest RX0 31 yX4_isIn "RainCells") U ∧ va_Nw (.methodLinkNest RX0 54 yX4_isPlot "RainCells") U ∧ va_Nw (.methodLinkNest RX0 64 yX4_without "RainCells") U ∧ va_Nw (.methodLinkNest RX0 67 yX4_with "RainCells") U ∧ va_Nw (.methodLinkNest RX1 60 yX4_with "RainCells") U
theorem NN.warm {s U : State} (hW : s.WarmedH U.vm) (h : NN s) : NN U := ⟨h.1.warmM hW, h.2.1.warmM hW, h.2.2.1.warmM hW, h.2.2.2.1.warmM hW, h.2.2.2.2.1.warmM hW, h.2.2.2.2.2.warmM hW⟩
theorem NN.same {s U : State} (e : s.vm = U.vm) (h : NN s) : NN U := ⟨va_Nw.same rfl e h.1, va_Nw.same rfl e h.2.1, va_Nw.same rfl e h.2.2.1, va_Nw.same rfl e h.2.2.2.1, va_Nw.same rfl e h.2.2.2.2.1, va_Nw.same rfl e h.2.2.2.2.2⟩
/-- what a method that only reads needs; what one that writes needs -/
def RB (D : va_G) (k : Nat → ClassId) (w : va_W) : State → Prop := fun U => va_P D vwCl w U.heap ∧ va_K D vwCl (ty5 k) U ∧ NN U
def MB (D : va_G) (k : Nat → ClassId) (w : va_W) : State → Prop := fun U => va_P D vwCl w U.heap ∧ va_K D vwCl (ty5 k) U ∧ NN U ∧ va_D (fun _ => True) w
def AD (w : va_W) (q : Nat) : Prop := ∃ (j : Nat) (e : va_E), w[j]? = some (q, e)
def QR (ov : Option Value) : Array Value → State → Outcome → State → Prop := fun _ st oc t => oc = .returned ov ∧ t.heap = st.heap
def QM (D : va_G) (w w' : va_W) (ov : Option Value) : Array Value → State → Outcome → State → Prop := fun _ st oc t => oc = .returned ov ∧ va_P D vwCl w' t.heap ∧ va_F (AD w) st t
theorem RB.blind {D : va_G} {k : Nat → ClassId} {w : va_W} {av : List Value} : FrameBlind (va_Pc av (RB D k w)) := by
  intro a U g mk q
  obtain ⟨q0, qP, qK, qN⟩ := q
  exact ⟨q0, qP, va_K.moved (u := U) (U := U.calling g mk a) (Vm.Alike.refl U.vm) qK, NN.same (U := U.calling g mk a) rfl qN⟩
theorem MB.blind {D : va_G} {k : Nat → ClassId} {w : va_W} {av : List Value} : FrameBlind (va_Pc av (MB D k w)) := by
  intro a U g mk q
  obtain ⟨q0, qP, qK, qN, qD⟩ := q
  exact ⟨q0, qP, va_K.moved (u := U) (U := U.calling g mk a) (Vm.Alike.refl U.vm) qK, NN.same (U := U.calling g mk a) rfl qN, qD⟩
/-! the start of a method's walk -/
theorem met_Ri {l : Launch} {y : MethodName} {ws ws' : List Cond} {rm : Room} {cc : ByteArray} {maxL : Nat} {av : List Value} {D : va_G} {k : Nat → ClassId} {w : va_W} {r : Int32} (hy : plainName y.cls = true) (hw : ws = Cond.code y cc maxL (some .int) :: ws') (hlen : (lg_sl av).length ≤ maxL)
    (body : ∀ (p : Program) (e : Env) (s : State) (m : MethodId) (below : List Frame) (meth : Method) (c : Code) (Q : State → Prop) (args : Array Value) (ls : Array Slot), p.tables.exec = Jvm.exec → c.code = cc → c.maxLocals = maxL → s.vm.findClass y.cls = some m.cls → (∀ w ∈ ws, w.before args s = true) → va_P D vwCl w s.heap → va_K D vwCl (ty5 k) s → NN s → lv_has ls maxL (lv_args 0 av) →
      (∀ (pc : Nat) (ls : Array Slot), decode cc pc = .ok (.ireturn, 1) → W p l e rm s m args below meth c s.heap [] 0 0 Q (F0 m pc ls [.int r])) → W p l e rm s m args below meth c s.heap [] 0 0 Q (F0 m 0 ls [])) :
    Met l y ws rm (va_Pc av (RB D k w)) (QR (some (.int r))) 0 0 (fun _ => False) := by
  refine Met.ofW (cc := cc) (maxL := maxL) (ret := some .int) hy hw ?_
  intro p e s m args below meth c s₁ B hml hv
  obtain ⟨rfl, hP, hK, hN⟩ := hv
  have hlocks := B.notSynchronized
  rw [lg_entry_eq]
  exact body p e s m below meth c _ _ _ B.exec B.bytes hml (findClass_of_methodNamed B.named) (atoms_spec (ws := ws) B.pre) hP hK hN (lv_entry av hlen) (fun pc ls hd => W.iret B.exec B.bytes B.returns (fun t ht _ => ⟨rfl, ht⟩) (fun q h => by cases h) hd)
theorem met_Rz {l : Launch} {y : MethodName} {ws ws' : List Cond} {rm : Room} {cc : ByteArray} {maxL : Nat} {av : List Value} {D : va_G} {k : Nat → ClassId} {w : va_W} {r : Bool} (hy : plainName y.cls = true) (hw : ws = Cond.code y cc maxL (some .boolean) :: ws') (hlen : (lg_sl av).length ≤ maxL)
    (body : ∀ (p : Program) (e : Env) (s : State) (m : MethodId) (below : List Frame) (meth : Method) (c : Code) (Q : State → Prop) (args : Array Value) (ls : Array Slot), p.tables.exec = Jvm.exec → c.code = cc → c.maxLocals = maxL → s.vm.findClass y.cls = some m.cls → (∀ w ∈ ws, w.before args s = true) → va_P D vwCl w s.heap → va_K D vwCl (ty5 k) s → NN s → lv_has ls maxL (lv_args 0 av) →
      (∀ (pc : Nat) (ls : Array Slot), decode cc pc = .ok (.ireturn, 1) → W p l e rm s m args below meth c s.heap [] 0 0 Q (F0 m pc ls [.int (b2i r)])) → W p l e rm s m args below meth c s.heap [] 0 0 Q (F0 m 0 ls [])) :
    Met l y ws rm (va_Pc av (RB D k w)) (QR (some (.int (b2i r)))) 0 0 (fun _ => False) := by
  refine Met.ofW (cc := cc) (maxL := maxL) (ret := some .boolean) hy hw ?_
  intro p e s m args below meth c s₁ B hml hv
  obtain ⟨rfl, hP, hK, hN⟩ := hv
  have hlocks := B.notSynchronized
  rw [lg_entry_eq]
  exact body p e s m below meth c _ _ _ B.exec B.bytes hml (findClass_of_methodNamed B.named) (atoms_spec (ws := ws) B.pre) hP hK hN (lv_entry av hlen) (fun pc ls hd => W.zret B.exec B.bytes B.returns (b2i_n r) (fun t ht _ => ⟨rfl, ht⟩) (fun q h => by cases h) hd)
theorem AD.self {w : va_W} {B : Nat → Prop} (h : va_D B w) : va_D (AD w) w := ⟨h.1, fun j q hj => ⟨j, q.2, hj⟩⟩
theorem met_Mi {l : Launch} {y : MethodName} {ws ws' : List Cond} {rm : Room} {cc : ByteArray} {maxL : Nat} {av : List Value} {D : va_G} {k : Nat → ClassId} {w w' : va_W} {r : Int32} (hy : plainName y.cls = true) (hw : ws = Cond.code y cc maxL (some .int) :: ws') (hlen : (lg_sl av).length ≤ maxL)
    (body : ∀ (p : Program) (e : Env) (s : State) (m : MethodId) (below : List Frame) (meth : Method) (c : Code) (Q : State → Prop) (args : Array Value) (ls : Array Slot), p.tables.exec = Jvm.exec → c.code = cc → c.maxLocals = maxL → s.vm.findClass y.cls = some m.cls → (∀ w ∈ ws, w.before args s = true) → va_P D vwCl w s.heap → va_K D vwCl (ty5 k) s → NN s → va_D (AD w) w → lv_has ls maxL (lv_args 0 av) →
      (∀ (pc : Nat) (ls : Array Slot) (H : Heap) (locs : List Loc), decode cc pc = .ok (.ireturn, 1) → va_P D vwCl w' H → va_S (AD w) s.heap H locs → W p l e rm s m args below meth c H locs 0 0 Q (F0 m pc ls [.int r])) → W p l e rm s m args below meth c s.heap [] 0 0 Q (F0 m 0 ls [])) :
    Met l y ws rm (va_Pc av (MB D k w)) (QM D w w' (some (.int r))) 0 0 (AD w) := by
  refine Met.ofW (cc := cc) (maxL := maxL) (ret := some .int) hy hw ?_
  intro p e s m args below meth c s₁ B hml hv
  obtain ⟨rfl, hP, hK, hN, hD⟩ := hv
  have hlocks := B.notSynchronized
  rw [lg_entry_eq]
  exact body p e s m below meth c _ _ _ B.exec B.bytes hml (findClass_of_methodNamed B.named) (atoms_spec (ws := ws) B.pre) hP hK hN (AD.self hD) (lv_entry av hlen) (fun pc ls H locs hd hP' hS => W.iret B.exec B.bytes B.returns (fun t ht _ => ⟨rfl, by rw [ht]; exact hP', hS.F ht⟩) hS.2.2 hd)
theorem met_Mz {l : Launch} {y : MethodName} {ws ws' : List Cond} {rm : Room} {cc : ByteArray} {maxL : Nat} {av : List Value} {D : va_G} {k : Nat → ClassId} {w w' : va_W} {r : Bool} (hy : plainName y.cls = true) (hw : ws = Cond.code y cc maxL (some .boolean) :: ws') (hlen : (lg_sl av).length ≤ maxL)
    (body : ∀ (p : Program) (e : Env) (s : State) (m : MethodId) (below : List Frame) (meth : Method) (c : Code) (Q : State → Prop) (args : Array Value) (ls : Array Slot), p.tables.exec = Jvm.exec → c.code = cc → c.maxLocals = maxL → s.vm.findClass y.cls = some m.cls → (∀ w ∈ ws, w.before args s = true) → va_P D vwCl w s.heap → va_K D vwCl (ty5 k) s → NN s → va_D (AD w) w → lv_has ls maxL (lv_args 0 av) →
      (∀ (pc : Nat) (ls : Array Slot) (H : Heap) (locs : List Loc), decode cc pc = .ok (.ireturn, 1) → va_P D vwCl w' H → va_S (AD w) s.heap H locs → W p l e rm s m args below meth c H locs 0 0 Q (F0 m pc ls [.int (b2i r)])) → W p l e rm s m args below meth c s.heap [] 0 0 Q (F0 m 0 ls [])) :
    Met l y ws rm (va_Pc av (MB D k w)) (QM D w w' (some (.int (b2i r)))) 0 0 (AD w) := by
  refine Met.ofW (cc := cc) (maxL := maxL) (ret := some .boolean) hy hw ?_
  intro p e s m args below meth c s₁ B hml hv
  obtain ⟨rfl, hP, hK, hN, hD⟩ := hv
  have hlocks := B.notSynchronized
  rw [lg_entry_eq]
  exact body p e s m below meth c _ _ _ B.exec B.bytes hml (findClass_of_methodNamed B.named) (atoms_spec (ws := ws) B.pre) hP hK hN (AD.self hD) (lv_entry av hlen) (fun pc ls H locs hd hP' hS => W.zret B.exec B.bytes B.returns (b2i_n r) (fun t ht _ => ⟨rfl, by rw [ht]; exact hP', hS.F ht⟩) hS.2.2 hd)
theorem met_Mv {l : Launch} {y : MethodName} {ws ws' : List Cond} {rm : Room} {cc : ByteArray} {maxL : Nat} {av : List Value} {D : va_G} {k : Nat → ClassId} {w w' : va_W} (hy : plainName y.cls = true) (hw : ws = Cond.code y cc maxL none :: ws') (hlen : (lg_sl av).length ≤ maxL)
    (body : ∀ (p : Program) (e : Env) (s : State) (m : MethodId) (below : List Frame) (meth : Method) (c : Code) (Q : State → Prop) (args : Array Value) (ls : Array Slot), p.tables.exec = Jvm.exec → c.code = cc → c.maxLocals = maxL → s.vm.findClass y.cls = some m.cls → (∀ w ∈ ws, w.before args s = true) → va_P D vwCl w s.heap → va_K D vwCl (ty5 k) s → NN s → va_D (AD w) w → lv_has ls maxL (lv_args 0 av) →
      (∀ (pc : Nat) (ls : Array Slot) (H : Heap) (locs : List Loc), decode cc pc = .ok (.return_, 1) → va_P D vwCl w' H → va_S (AD w) s.heap H locs → W p l e rm s m args below meth c H locs 0 0 Q (F0 m pc ls [])) → W p l e rm s m args below meth c s.heap [] 0 0 Q (F0 m 0 ls [])) :
    Met l y ws rm (va_Pc av (MB D k w)) (QM D w w' none) 0 0 (AD w) := by
  refine Met.ofW (cc := cc) (maxL := maxL) (ret := none) hy hw ?_
  intro p e s m args below meth c s₁ B hml hv
  obtain ⟨rfl, hP, hK, hN, hD⟩ := hv
  have hlocks := B.notSynchronized
  rw [lg_entry_eq]
  exact body p e s m below meth c _ _ _ B.exec B.bytes hml (findClass_of_methodNamed B.named) (atoms_spec (ws := ws) B.pre) hP hK hN (AD.self hD) (lv_entry av hlen) (fun pc ls H locs hd hP' hS => W.vret B.exec B.bytes B.returns (fun t ht _ => ⟨rfl, by rw [ht]; exact hP', hS.F ht⟩) hS.2.2 hd)
theorem met_Mr {l : Launch} {y : MethodName} {ws ws' : List Cond} {rm : Room} {cc : ByteArray} {maxL : Nat} {av : List Value} {D : va_G} {k : Nat → ClassId} {w w' : va_W} {r : Nat} {cn : String} (hy : plainName y.cls = true) (hw : ws = Cond.code y cc maxL (some (.object cn)) :: ws') (hlen : (lg_sl av).length ≤ maxL)
    (body : ∀ (p : Program) (e : Env) (s : State) (m : MethodId) (below : List Frame) (meth : Method) (c : Code) (Q : State → Prop) (args : Array Value) (ls : Array Slot), p.tables.exec = Jvm.exec → c.code = cc → c.maxLocals = maxL → s.vm.findClass y.cls = some m.cls → (∀ w ∈ ws, w.before args s = true) → va_P D vwCl w s.heap → va_K D vwCl (ty5 k) s → NN s → va_D (AD w) w → lv_has ls maxL (lv_args 0 av) →
      (∀ (pc : Nat) (ls : Array Slot) (H : Heap) (locs : List Loc), decode cc pc = .ok (.areturn, 1) → va_P D vwCl w' H → va_S (AD w) s.heap H locs → W p l e rm s m args below meth c H locs 0 0 Q (F0 m pc ls [.ref r])) → W p l e rm s m args below meth c s.heap [] 0 0 Q (F0 m 0 ls [])) :
    Met l y ws rm (va_Pc av (MB D k w)) (QM D w w' (some (.ref r))) 0 0 (AD w) := by
  refine Met.ofW (cc := cc) (maxL := maxL) (ret := some (.object cn)) hy hw ?_
  intro p e s m args below meth c s₁ B hml hv
  obtain ⟨rfl, hP, hK, hN, hD⟩ := hv
  have hlocks := B.notSynchronized
  rw [lg_entry_eq]
  exact body p e s m below meth c _ _ _ B.exec B.bytes hml (findClass_of_methodNamed B.named) (atoms_spec (ws := ws) B.pre) hP hK hN (AD.self hD) (lv_entry av hlen) (fun pc ls H locs hd hP' hS => W.aret B.exec B.bytes B.returns (Or.inl ⟨_, rfl⟩) (Or.inr ⟨_, rfl⟩) (fun t ht _ => ⟨rfl, by rw [ht]; exact hP', hS.F ht⟩) hS.2.2 hd)
