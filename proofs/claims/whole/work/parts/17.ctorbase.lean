/-! ===== constructors: what they need, what they leave ===== -/
def CB (D : va_G) (k : Nat → ClassId) (sz : Nat) (w : va_W) : State → Prop := fun U => U.heap.size = sz ∧ va_P D vwCl w U.heap ∧ va_K D vwCl (ty5 k) U ∧ NN U ∧ va_AO "RainCells$Cells" U ∧ va_AO "RainCells$Scene" U
def QC (D : va_G) (w : va_W) (sz h0 : Nat) (Wf : (Nat → Nat) → va_W) : Array Value → State → Outcome → State → Prop := va_Qv (fun a : Nat → Nat => a 0 = h0) (fun a t => va_P D vwCl (Wf a) t.heap ∧ va_D (va_A w sz) (Wf a)) (va_A w sz)
theorem CB.blind {D : va_G} {k : Nat → ClassId} {sz : Nat} {w : va_W} {av : List Value} : FrameBlind (va_Pc av (CB D k sz w)) := by
  intro a U g mk q
  obtain ⟨q0, qz, qP, qK, qN, q1, q2⟩ := q
  exact ⟨q0, qz, qP, va_K.moved (u := U) (U := U.calling g mk a) (Vm.Alike.refl U.vm) qK, NN.same (U := U.calling g mk a) rfl qN, va_AO.moved (u := U) (U := U.calling g mk a) (Vm.Alike.refl U.vm) q1, va_AO.moved (u := U) (U := U.calling g mk a) (Vm.Alike.refl U.vm) q2⟩
theorem met_C {l : Launch} {y : MethodName} {ws ws' : List Cond} {rm : Room} {cc : ByteArray} {maxL mc ms : Nat} {D : va_G} {k : Nat → ClassId} {h0 sz : Nat} {x : va_E} {Wf : (Nat → Nat) → va_W} (hy : plainName y.cls = true) (hw : ws = Cond.code y cc maxL none :: ws') (hnm : y.name = "<init>") (hlen : 1 ≤ maxL)
    (body : ∀ (p : Program) (e : Env) (s : State) (m : MethodId) (below : List Frame) (meth : Method) (c : Code) (Q : State → Prop) (args : Array Value) (ls : Array Slot) (A : Nat → Prop), p.tables.exec = Jvm.exec → c.code = cc → c.maxLocals = maxL → s.vm.findClass y.cls = some m.cls → (∀ w ∈ ws, w.before args s = true) → meth.name = "<init>" → va_P D vwCl [(h0, x)] s.heap → va_K D vwCl (ty5 k) s → NN s → va_AO "RainCells$Cells" s → va_AO "RainCells$Scene" s → va_D A [(h0, x)] → (∀ q, s.heap.size ≤ q → A q) → lv_has ls maxL [(0, .ref h0)] →
      (∀ (pc : Nat) (ls : Array Slot) (H : Heap) (locs : List Loc) (a : Nat → Nat), decode cc pc = .ok (.return_, 1) → a 0 = h0 → va_P D vwCl (Wf a) H → va_D A (Wf a) → va_S A s.heap H locs → W p l e rm s m args below meth c H locs mc ms Q (F0 m pc ls [])) → W p l e rm s m args below meth c s.heap [] 0 0 Q (F0 m 0 ls [])) :
    Met l y ws rm (va_Pc [.ref h0] (CB D k sz [(h0, x)])) (QC D [(h0, x)] sz h0 Wf) mc ms (va_A [(h0, x)] sz) := by
  refine Met.ofW (cc := cc) (maxL := maxL) (ret := none) hy hw ?_
  intro p e s m args below meth c s₁ B hml hv
  obtain ⟨rfl, hsz, hP, hK, hN, hA1, hA2⟩ := hv
  subst hsz
  have hlocks := B.notSynchronized
  have hin : meth.name = "<init>" := by rw [← hnm]; exact (name_of_methodNamed B.named B.method).1
  have hD0 : va_D (fun _ => True) [(h0, x)] := ⟨fun i j p q hi hj _ => by
    have h1 := (List.getElem?_eq_some_iff.mp hi).1
    have h2 := (List.getElem?_eq_some_iff.mp hj).1
    simp at h1 h2; omega, fun _ _ _ => trivial⟩
  rw [lg_entry_eq]
  exact body p e s m below meth c _ _ _ (va_A [(h0, x)] s.heap.size) B.exec B.bytes hml (findClass_of_methodNamed B.named) (atoms_spec (ws := ws) B.pre) hin hP hK hN hA1 hA2 (hD0.self (sz := s.heap.size)) (fun q h => Or.inr h) (lv_entry [.ref h0] (n := maxL) hlen) (fun pc ls H locs a hd ha hP' hD' hS => W.vret B.exec B.bytes B.returns (fun t ht _ => ⟨⟨a, rfl, ha, by rw [ht]; exact hP', hD'⟩, hS.F ht⟩) hS.2.2 hd)
theorem ra_int {D : va_G} {k : Nat → ClassId} {s : State} {cA : ClassId} (hK : va_K D vwCl (ty5 k) s) (hK1 : va_K D vwCl (ty5 k ++ [(cA, .int)]) s) : cA = k 0 := Option.some.inj ((hK1.2 5 _ rfl).2.symm.trans (hK.2 0 _ rfl).2)
theorem ra_long {D : va_G} {k : Nat → ClassId} {s : State} {cA : ClassId} (hK : va_K D vwCl (ty5 k) s) (hK1 : va_K D vwCl (ty5 k ++ [(cA, .long)]) s) : cA = k 1 := Option.some.inj ((hK1.2 5 _ rfl).2.symm.trans (hK.2 1 _ rfl).2)
theorem ra_boolean {D : va_G} {k : Nat → ClassId} {s : State} {cA : ClassId} (hK : va_K D vwCl (ty5 k) s) (hK1 : va_K D vwCl (ty5 k ++ [(cA, .boolean)]) s) : cA = k 2 := Option.some.inj ((hK1.2 5 _ rfl).2.symm.trans (hK.2 2 _ rfl).2)
theorem ra_cells {D : va_G} {k : Nat → ClassId} {s : State} {cA : ClassId} (hK : va_K D vwCl (ty5 k) s) (hK1 : va_K D vwCl (ty5 k ++ [(cA, .object "RainCells$Cells")]) s) : cA = k 3 := by
  obtain ⟨_, _, _, _, _, h1⟩ := (hK1.2 5 _ rfl).2
  obtain ⟨_, _, _, _, _, h2⟩ := (hK.2 3 _ rfl).2
  exact Option.some.inj (h1.symm.trans h2)
theorem ra_scene {D : va_G} {k : Nat → ClassId} {s : State} {cA : ClassId} (hK : va_K D vwCl (ty5 k) s) (hK1 : va_K D vwCl (ty5 k ++ [(cA, .object "RainCells$Scene")]) s) : cA = k 4 := by
  obtain ⟨_, _, _, _, _, h1⟩ := (hK1.2 5 _ rfl).2
  obtain ⟨_, _, _, _, _, h2⟩ := (hK.2 4 _ rfl).2
  exact Option.some.inj (h1.symm.trans h2)
theorem va_P.arrq {D : va_G} {cl : List vw_C} {w : va_W} {H : Heap} (j : Nat) {a : Nat} {cA : ClassId} {n : Nat} {f : Nat → Option Nat} (g : Nat → Option Nat) (h : va_P D cl w H) (hj : w[j]? = some (a, .inl (cA, n, .inr (.inr (.inr (.inr f)))))) (hfg : ∀ i, i < n → f i = g i) : va_P D cl (w.set j (a, .inl (cA, n, .inr (.inr (.inr (.inr g)))))) H := by
  have hl := (List.getElem?_eq_some_iff.mp hj).1
  intro i q hi
  by_cases hij : i = j
  · subst hij
    rw [List.getElem?_set_self hl] at hi
    cases hi
    have h1 : H[a]? = some (vp_cell cA (n, .inr (.inr (.inr (.inr f))))) := h i _ hj
    show H[a]? = some (vp_cell cA (n, .inr (.inr (.inr (.inr g)))))
    rw [h1, vp_cell_q, vp_cell_q]
    unfold arrV
    congr 2
    congr 1
    funext z
    exact congrArg va_rf (hfg z.val z.isLt)
  · rw [List.getElem?_set_ne (Ne.symm hij)] at hi
    exact h i q hi
section CTOR
variable {p : Program} {l : Launch} {e : Env} {R : Room} {s : State} {m : MethodId} {args : Array Value} {below : List Frame} {meth : Method} {c : Code} {H : Heap} {locs : List Loc} {cells slots : Nat} {Q : State → Prop}
variable {cc bytes : ByteArray} {nL maxL index pc mc ms : Nat} {own : String} {y : MethodName} {rm : Room} {Ts ws ws' : List Cond} {D : va_G} {k : Nat → ClassId} {w wr : va_W} {q : Nat} {x : va_E} {rest : List Value} {ls : Array Slot} {A : Nat → Prop} {H0 : Heap} {Wf : (Nat → Nat) → va_W}
theorem cI0 {st : List Value} {ar : Array Value} (hP : va_P D vwCl w H) (hD : va_D A w) (hS : va_S A H0 H locs) (hA : ∀ q, H0.size ≤ q → A q) (isC isR : List Nat) (hC : isC.map (fun i => w[i]?) = ([(q, x)] : va_W).map some) (hR : isR.map (fun i => w[i]?) = wr.map some) (hn : va_nd isR = true) (hdis : ∀ i ∈ isR, i ∉ isC)
    (hr : va_Run p l e R s m args below meth c H locs cells slots mc ms (F0 m pc ls st) rest (QC D [(q, x)] H.size q Wf ar) (va_A [(q, x)] H.size))
    (kk : ∀ (a : Nat → Nat) (H1 : Heap) (locs1 : List Loc), a 0 = q → va_P D vwCl (wr ++ Wf a) H1 → va_D A (wr ++ Wf a) → va_S A H0 H1 locs1 → W p l e R s m args below meth c H1 locs1 (cells + mc) (slots + ms) Q (F0 m (pc + 3) ls rest)) : W p l e R s m args below meth c H locs cells slots Q (F0 m pc ls st) := by
  have hFc := va_free (wc := [(q, x)]) hD hS hA isC hC
  refine va_callv hr hS (fun z _ h => hFc z h) hFc (fun a t H1 locs1 ht hvm ha hB hz1 hk1 hS1 => ?_)
  obtain ⟨hP1, hD1⟩ := hB
  rw [ht] at hP1
  obtain ⟨hP2, hD2⟩ := va_join hP hD isC isR hC hR hn hdis hk1 hFc hP1 hD1
  exact kk a H1 locs1 ha hP2 hD2 hS1
theorem cI (hx : p.tables.exec = Jvm.exec) (hb : c.code = cc) (hml : c.maxLocals = nL) (hown : s.vm.findClass own = some m.cls) (hts : ∀ w ∈ Ts, w.before args s = true) (hK : va_K D vwCl (ty5 k) s) (hN : NN s) (hA1 : va_AO "RainCells$Cells" s) (hA2 : va_AO "RainCells$Scene" s) (hl : ls.size = nL) (hP : va_P D vwCl w H) (hD : va_D A w) (hS : va_S A H0 H locs) (hA : ∀ q, H0.size ≤ q → A q) (isC isR : List Nat) (hC : isC.map (fun i => w[i]?) = ([(q, x)] : va_W).map some) (hR : isR.map (fun i => w[i]?) = wr.map some) (hn : va_nd isR = true) (hdis : ∀ i ∈ isR, i ∉ isC)
    (hM : Met l y ws rm (va_Pc [.ref q] (CB D k H.size [(q, x)])) (QC D [(q, x)] H.size q Wf) mc ms (va_A [(q, x)] H.size)) (cw : CallB R s args own index y bytes maxL none ws rm mc ms 0 ∧ y.name = "<init>" ∧ (Cond.instanceMethod y).before args s = true)
    (hW : (rest.map fun v => v.category).sum ≤ 8) (hdg : decode cc pc = .ok (.invokespecial index, 3)) (hf : cells + mc ≤ R.cells ∧ slots + ms ≤ R.slots)
    (kk : ∀ (a : Nat → Nat) (H1 : Heap) (locs1 : List Loc), a 0 = q → va_P D vwCl (wr ++ Wf a) H1 → va_D A (wr ++ Wf a) → va_S A H0 H1 locs1 → W p l e R s m args below meth c H1 locs1 (cells + mc) (slots + ms) Q (F0 m (pc + 3) ls rest)) : W p l e R s m args below meth c H locs cells slots Q (F0 m pc ls (.ref q :: rest)) := by
  have hPc := hP.sub (ws' := [(q, x)]) isC (by
    have h1 := congrArg (List.filterMap id) hC
    simpa [List.filterMap_map] using h1)
  refine cI0 hP hD hS hA isC isR hC hR hn hdis (va_runI (As := []) (rest := rest) ⟨hx, hb, hml, hown, hts⟩ hM cw ⟨CB.blind, fun U hU hW => ⟨rfl, by rw [hU], by rw [hU]; exact hPc, va_K.moved hW.alike hK, hN.warm hW, hA1.moved hW.alike, hA2.moved hW.alike⟩⟩ rfl rfl hl rfl (lv_room (rest := .ref q :: rest) hW) hdg hf) kk
theorem cIN {host : String} (hx : p.tables.exec = Jvm.exec) (hb : c.code = cc) (hml : c.maxLocals = nL) (hown : s.vm.findClass own = some m.cls) (hts : ∀ w ∈ Ts, w.before args s = true) (hK : va_K D vwCl (ty5 k) s) (hN : NN s) (hA1 : va_AO "RainCells$Cells" s) (hA2 : va_AO "RainCells$Scene" s) (hl : ls.size = nL) (hP : va_P D vwCl w H) (hD : va_D A w) (hS : va_S A H0 H locs) (hA : ∀ q, H0.size ≤ q → A q) (isC isR : List Nat) (hC : isC.map (fun i => w[i]?) = ([(q, x)] : va_W).map some) (hR : isR.map (fun i => w[i]?) = wr.map some) (hn : va_nd isR = true) (hdis : ∀ i ∈ isR, i ∉ isC)
    (hM : Met l y ws rm (va_Pc [.ref q] (CB D k H.size [(q, x)])) (QC D [(q, x)] H.size q Wf) mc ms (va_A [(q, x)] H.size)) (cw : va_CN R s args own index y host bytes maxL none ws rm mc ms 0 ∧ y.name = "<init>" ∧ (Cond.instanceMethod y).before args s = true)
    (hW : (rest.map fun v => v.category).sum ≤ 8) (hdg : decode cc pc = .ok (.invokespecial index, 3)) (hf : cells + mc ≤ R.cells ∧ slots + ms ≤ R.slots)
    (kk : ∀ (a : Nat → Nat) (H1 : Heap) (locs1 : List Loc), a 0 = q → va_P D vwCl (wr ++ Wf a) H1 → va_D A (wr ++ Wf a) → va_S A H0 H1 locs1 → W p l e R s m args below meth c H1 locs1 (cells + mc) (slots + ms) Q (F0 m (pc + 3) ls rest)) : W p l e R s m args below meth c H locs cells slots Q (F0 m pc ls (.ref q :: rest)) := by
  have hPc := hP.sub (ws' := [(q, x)]) isC (by
    have h1 := congrArg (List.filterMap id) hC
    simpa [List.filterMap_map] using h1)
  refine cI0 hP hD hS hA isC isR hC hR hn hdis (va_runIN (As := []) (rest := rest) ⟨hx, hb, hml, hown, hts⟩ hM cw ⟨CB.blind, fun U hU hW => ⟨rfl, by rw [hU], by rw [hU]; exact hPc, va_K.moved hW.alike hK, hN.warm hW, hA1.moved hW.alike, hA2.moved hW.alike⟩⟩ rfl rfl hl rfl (lv_room (rest := .ref q :: rest) hW) hdg hf) kk
end CTOR
