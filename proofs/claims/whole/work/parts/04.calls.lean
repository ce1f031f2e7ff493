/-! ===== calls, in the form that the walking program uses ===== -/
theorem va_D.addr {A : Nat → Prop} {w0 w1 : va_W} (h : va_D A w0) (e : w1.map Prod.fst = w0.map Prod.fst) : va_D A w1 := by
  have key : ∀ (j : Nat) (q : Nat × va_E), w1[j]? = some q → ∃ q0 : Nat × va_E, w0[j]? = some q0 ∧ q0.1 = q.1 := by
    intro j q hj
    have h1 : (w1.map Prod.fst)[j]? = some q.1 := by rw [List.getElem?_map, hj]; rfl
    rw [e, List.getElem?_map] at h1
    cases h2 : w0[j]? with
    | none => rw [h2] at h1; cases h1
    | some q0 => rw [h2] at h1; exact ⟨q0, rfl, Option.some.inj h1⟩
  refine ⟨fun i j x y hx hy hxy => ?_, fun j q hj => ?_⟩
  · obtain ⟨x0, a1, a2⟩ := key i x hx
    obtain ⟨y0, b1, b2⟩ := key j y hy
    exact h.1 i j x0 y0 a1 b1 (a2.trans (hxy.trans b2.symm))
  · obtain ⟨q0, a1, a2⟩ := key j q hj
    rw [← a2]; exact h.2 j q0 a1
/-- a callee's part wc of a world w0, and what both are behind the call -/
def Sp (A : Nat → Prop) (w0 wc w1 wc' : va_W) : Prop := (∀ (i : Nat) (q : Nat × va_E), wc[i]? = some q → ∃ j : Nat, w0[j]? = some q) ∧ (va_D A w0 → va_D (fun _ => True) wc) ∧ (∀ (j : Nat) (q : Nat × va_E), w1[j]? = some q → (∃ i : Nat, wc'[i]? = some q) ∨ ((∃ j' : Nat, w0[j']? = some q) ∧ (va_D A w0 → ¬ AD wc q.1))) ∧ w1.map Prod.fst = w0.map Prod.fst
theorem at_map {is : List Nat} {w w' : va_W} (hs : is.map (fun i => w[i]?) = w'.map some) {i : Nat} {q : Nat × va_E} (hq : w'[i]? = some q) : ∃ j, is[i]? = some j ∧ w[j]? = some q := by
  have h1 : (is.map (fun i => w[i]?))[i]? = some (some q) := by rw [hs, List.getElem?_map, hq]; rfl
  rw [List.getElem?_map] at h1
  cases hi : is[i]? with
  | none => rw [hi] at h1; cases h1
  | some j => rw [hi] at h1; exact ⟨j, rfl, Option.some.inj h1⟩
theorem Sp.idx {A : Nat → Prop} {w0 wc w1 wc' : va_W} {N : Nat} (is isR : List Nat) (hn : va_nd is = true) (hsub : is.map (fun i => w0[i]?) = wc.map some) (h1 : is.map (fun i => w1[i]?) = wc'.map some) (h2 : isR.map (fun i => w1[i]?) = isR.map (fun i => w0[i]?)) (hl : w1.length ≤ N) (h3 : (List.range N).all (fun j => is.contains j || isR.contains j) = true) (h4 : isR.all (fun j => !is.contains j) = true) (h5 : w1.map Prod.fst = w0.map Prod.fst) : Sp A w0 wc w1 wc' := by
  refine ⟨fun i q hq => ?_, fun hD => (hD.sub is hn hsub).weaken (fun _ _ _ _ => trivial), fun j q hj => ?_, h5⟩
  · obtain ⟨j, -, h⟩ := at_map hsub hq
    exact ⟨j, h⟩
  · have hjl : j < N := Nat.lt_of_lt_of_le (List.getElem?_eq_some_iff.mp hj).1 hl
    have h6 := List.all_eq_true.mp h3 j (List.mem_range.mpr hjl)
    rw [Bool.or_eq_true] at h6
    rcases h6 with h6 | h6
    · left
      have hm : j ∈ is := by simpa using h6
      obtain ⟨i, hi⟩ := List.getElem?_of_mem hm
      have h7 : (is.map (fun i => w1[i]?))[i]? = some (some q) := by rw [List.getElem?_map, hi]; show some (w1[j]?) = _; rw [hj]
      rw [h1, List.getElem?_map] at h7
      cases hc : wc'[i]? with
      | none => rw [hc] at h7; cases h7
      | some z => rw [hc] at h7; exact ⟨i, by rw [hc]; exact congrArg some (Option.some.inj (Option.some.inj h7))⟩
    · right
      have hm : j ∈ isR := by simpa using h6
      obtain ⟨i, hi⟩ := List.getElem?_of_mem hm
      have h7 : (isR.map (fun i => w1[i]?))[i]? = some (w1[j]?) := by rw [List.getElem?_map, hi]; rfl
      rw [h2, List.getElem?_map, hi] at h7
      have h8 : w0[j]? = some q := by rw [← hj]; exact Option.some.inj h7
      refine ⟨⟨j, h8⟩, fun hD ha => ?_⟩
      obtain ⟨z, e, hz⟩ := ha
      obtain ⟨j', a1, a2⟩ := at_map hsub hz
      have hjj := hD.1 j j' _ _ h8 a2 rfl
      have h9 := List.all_eq_true.mp h4 j hm
      subst hjj
      have : j ∈ is := List.mem_of_getElem? a1
      simp [this] at h9
theorem Sp.join {A : Nat → Prop} {D : va_G} {cl : List vw_C} {w0 wc w1 wc' : va_W} {H H1 : Heap} (S : Sp A w0 wc w1 wc') (hP : va_P D cl w0 H) (hD : va_D A w0) (hfr : ∀ q, q < H.size → ¬ AD wc q → H1[q]? = H[q]?) (hP1 : va_P D cl wc' H1) : va_P D cl w1 H1 := by
  intro j q hj
  rcases S.2.2.1 j q hj with ⟨i, hi⟩ | ⟨⟨j', hj'⟩, ha⟩
  · exact hP1 i q hi
  · exact (hP j' q hj').kept (hfr q.1 (hP j' q hj').lt (ha hD))
theorem Sp.part {A : Nat → Prop} {D : va_G} {cl : List vw_C} {w0 wc w1 wc' : va_W} {H : Heap} (S : Sp A w0 wc w1 wc') (hP : va_P D cl w0 H) : va_P D cl wc H := fun i q hi => by
  obtain ⟨j, hj⟩ := S.1 i q hi
  exact hP j q hj
theorem Sp.free {A : Nat → Prop} {w0 wc w1 wc' : va_W} (S : Sp A w0 wc w1 wc') (hD : va_D A w0) : ∀ q, AD wc q → A q := fun q ⟨i, e, h⟩ => by
  obtain ⟨j, hj⟩ := S.1 i _ h
  exact hD.2 j _ hj
section CALLS
variable {p : Program} {l : Launch} {e : Env} {R : Room} {s : State} {m : MethodId} {args : Array Value} {below : List Frame} {meth : Method} {c : Code} {H : Heap} {locs : List Loc} {cells slots : Nat} {Q : State → Prop}
variable {cc bytes : ByteArray} {nL maxL index n pc : Nat} {own C : String} {y : MethodName} {ret : Option FieldType} {rm : Room} {Ts ws ws' : List Cond} {D : va_G} {k : Nat → ClassId} {w wc wc' w1 : va_W} {b : Nat} {As rest st : List Value} {ls : Array Slot} {v : Value} {A : Nat → Prop} {H0 : Heap}
theorem cs_R {a : Array Value} (hr : CallRun p l e R s m args below meth c H locs cells slots 0 0 (F0 m pc ls st) rest (QR (some v) a) (fun _ => False)) (kk : W p l e R s m args below meth c H locs cells slots Q (F0 m (pc + 3) ls (v :: rest))) : W p l e R s m args below meth c H locs cells slots Q (F0 m pc ls st) := by
  intro T hT X
  obtain ⟨v', st₀, t, T', L, h0, X', hL, e1, ⟨hv, hh⟩, st⟩ := hr T hT X
  cases hv
  obtain ⟨t2, a1, b1⟩ := kk T' (by rw [e1, hh, h0]) (Stand.forget X' (fun q h => (hL q h).elim))
  exact ⟨t2, st t2 a1, b1⟩
theorem cR_V (hx : p.tables.exec = Jvm.exec) (hb : c.code = cc) (hml : c.maxLocals = nL) (hown : s.vm.findClass own = some m.cls) (hts : ∀ w ∈ Ts, w.before args s = true) (hK : va_K D vwCl (ty5 k) s) (hN : NN s) (hl : ls.size = nL)
    (hM : Met l y ws rm (va_Pc (.ref b :: As) (RB D k w)) (QR (some v)) 0 0 (fun _ => False)) (hG : GoodIn Ts (wsV own index C y ws)) (hw : ws = Cond.code y bytes maxL ret :: ws') (hd : y.cls = C ∧ y.cls ≠ "java/lang/invoke/MethodHandle" ∧ y.cls ≠ "java/lang/invoke/VarHandle" ∧ (parseMethodDescriptor y.desc).map (fun d => d.parameters.length) = some n)
    (hR : (rm.cells = 0 ∧ rm.slots = 0) ∧ rm.frames + 1 ≤ R.frames ∧ 8 + (maxL + 11) + rm.locals ≤ R.locals) (hP : va_P D vwCl w H) (q0 ci : Nat) {q : vw_C} {fs : List Value} (hc : vwCl[ci]? = some q) (hC : q.1 = C) (he : w[q0]? = some (b, .inr (ci, fs)))
    (hn : As.length = n) (hst : st = As.reverse ++ .ref b :: rest) (hW : (rest.map fun v => v.category).sum ≤ 8) (hdg : decode cc pc = .ok (.invokevirtual index, 3)) (hcs : cells ≤ R.cells ∧ slots ≤ R.slots)
    (kk : W p l e R s m args below meth c H locs cells slots Q (F0 m (pc + 3) ls (v :: rest))) : W p l e R s m args below meth c H locs cells slots Q (F0 m pc ls st) := by
  subst hst
  subst hC
  exact cs_R (W.runV (As := As) (rest := rest) ⟨hx, hb, hml, hown, hts⟩ hM (cwV n hts hG hw hR.1.1 hR.1.2 hd hR.2) ⟨RB.blind, va_recv hK hP hc he, fun U hU hW => ⟨rfl, by rw [hU]; exact hP, va_K.moved hW.alike hK, hN.warm hW⟩⟩ rfl hn hl rfl (lv_room (rest := As.reverse ++ .ref b :: rest) hW) hdg hcs) kk
theorem cR_S (hx : p.tables.exec = Jvm.exec) (hb : c.code = cc) (hml : c.maxLocals = nL) (hown : s.vm.findClass own = some m.cls) (hts : ∀ w ∈ Ts, w.before args s = true) (hK : va_K D vwCl (ty5 k) s) (hN : NN s) (hl : ls.size = nL)
    (hM : Met l y ws rm (va_Pc As (RB D k w)) (QR (some v)) 0 0 (fun _ => False)) (hG : GoodIn Ts (va_wsS own index y ws)) (hw : ws = Cond.code y bytes maxL ret :: ws') (hd : y.cls ≠ "java/lang/invoke/MethodHandle" ∧ y.cls ≠ "java/lang/invoke/VarHandle" ∧ (parseMethodDescriptor y.desc).map (fun d => d.parameters.length) = some n)
    (hR : (rm.cells = 0 ∧ rm.slots = 0) ∧ rm.frames + 1 ≤ R.frames ∧ 8 + (maxL + 11) + rm.locals ≤ R.locals) (hP : va_P D vwCl w H)
    (hn : As.length = n) (hst : st = As.reverse ++ rest) (hW : (rest.map fun v => v.category).sum ≤ 8) (hdg : decode cc pc = .ok (.invokestatic index, 3)) (hcs : cells ≤ R.cells ∧ slots ≤ R.slots)
    (kk : W p l e R s m args below meth c H locs cells slots Q (F0 m (pc + 3) ls (v :: rest))) : W p l e R s m args below meth c H locs cells slots Q (F0 m pc ls st) := by
  subst hst
  exact cs_R (W.runS (As := As) (rest := rest) ⟨hx, hb, hml, hown, hts⟩ hM (va_cwS n hts hG hw hR.1.1 hR.1.2 hd hR.2) ⟨RB.blind, fun U hU hW => ⟨rfl, by rw [hU]; exact hP, va_K.moved hW.alike hK, hN.warm hW⟩⟩ rfl hn hl rfl (lv_room (rest := As.reverse ++ rest) hW) hdg hcs) kk
theorem cR_N {host : String} (hx : p.tables.exec = Jvm.exec) (hb : c.code = cc) (hml : c.maxLocals = nL) (hown : s.vm.findClass own = some m.cls) (hts : ∀ w ∈ Ts, w.before args s = true) (hK : va_K D vwCl (ty5 k) s) (hN : NN s) (hl : ls.size = nL)
    (hM : Met l y ws rm (va_Pc As (RB D k w)) (QR (some v)) 0 0 (fun _ => False)) (hnw : va_Nw (.methodLinkNest own index y host) s) (hG : GoodIn Ts ws) (hw : ws = Cond.code y bytes maxL ret :: ws') (hstt : (Cond.static y).before args s = true) (hini : (Cond.initialized y.cls).before args s = true) (hd : y.cls ≠ "java/lang/invoke/MethodHandle" ∧ y.cls ≠ "java/lang/invoke/VarHandle" ∧ (parseMethodDescriptor y.desc).map (fun d => d.parameters.length) = some n)
    (hR : (rm.cells = 0 ∧ rm.slots = 0) ∧ rm.frames + 1 ≤ R.frames ∧ 8 + (maxL + 11) + rm.locals ≤ R.locals) (hP : va_P D vwCl w H)
    (hn : As.length = n) (hst : st = As.reverse ++ rest) (hW : (rest.map fun v => v.category).sum ≤ 8) (hdg : decode cc pc = .ok (.invokestatic index, 3)) (hcs : cells ≤ R.cells ∧ slots ≤ R.slots)
    (kk : W p l e R s m args below meth c H locs cells slots Q (F0 m (pc + 3) ls (v :: rest))) : W p l e R s m args below meth c H locs cells slots Q (F0 m pc ls st) := by
  subst hst
  exact cs_R (va_runSN (As := As) (rest := rest) ⟨hx, hb, hml, hown, hts⟩ hM ⟨va_cnB n hts hG hw hR.1.1 hR.1.2 hnw hini hd hR.2, hstt, trivial⟩ ⟨RB.blind, fun U hU hW => ⟨rfl, by rw [hU]; exact hP, va_K.moved hW.alike hK, hN.warm hW⟩⟩ rfl hn hl rfl (lv_room (rest := As.reverse ++ rest) hW) hdg hcs).run kk
theorem cs_M {a : Array Value} {ov : Option Value} (S : Sp A w wc w1 wc') (hP : va_P D vwCl w H) (hD : va_D A w) (hS : va_S A H0 H locs) (hr : CallRun p l e R s m args below meth c H locs cells slots 0 0 (F0 m pc ls st) rest (QM D wc wc' ov a) (AD wc))
    (kk : ∀ (H1 : Heap) (locs1 : List Loc), va_P D vwCl w1 H1 → va_D A w1 → va_S A H0 H1 locs1 → W p l e R s m args below meth c H1 locs1 cells slots Q (F0 m (pc + 3) ls (ov.toList ++ rest))) : W p l e R s m args below meth c H locs cells slots Q (F0 m pc ls st) := by
  intro T hT X
  obtain ⟨v', st₀, t, T', L, h0, X', hL, e1, ⟨hv, hP1, hz, hk⟩, st⟩ := hr T hT X
  cases hv
  rw [h0] at hz hk
  obtain ⟨t2, a1, b1⟩ := kk T'.heap (locs ++ L) (by rw [e1]; exact S.join hP hD hk hP1) (hD.addr S.2.2.2)
    ⟨Nat.le_trans hS.1 (by rw [e1]; exact hz), fun q h1 h2 => by rw [e1, hk q (Nat.lt_of_lt_of_le h1 hS.1) (fun z => h2 (S.free hD q z))]; exact hS.2.1 q h1 h2, fun q hq => by
      rcases List.mem_append.mp hq with h | h
      · exact hS.2.2 q h
      · exact S.free hD _ (hL q h)⟩ T' rfl X'
  exact ⟨t2, st t2 a1, b1⟩
theorem cM_V {ov : Option Value} (hx : p.tables.exec = Jvm.exec) (hb : c.code = cc) (hml : c.maxLocals = nL) (hown : s.vm.findClass own = some m.cls) (hts : ∀ w ∈ Ts, w.before args s = true) (hK : va_K D vwCl (ty5 k) s) (hN : NN s) (hl : ls.size = nL) (hP : va_P D vwCl w H) (hD : va_D A w) (hS : va_S A H0 H locs) (S : Sp A w wc w1 wc')
    (hM : Met l y ws rm (va_Pc (.ref b :: As) (MB D k wc)) (QM D wc wc' ov) 0 0 (AD wc)) (hG : GoodIn Ts (wsV own index C y ws)) (hw : ws = Cond.code y bytes maxL ret :: ws') (hd : y.cls = C ∧ y.cls ≠ "java/lang/invoke/MethodHandle" ∧ y.cls ≠ "java/lang/invoke/VarHandle" ∧ (parseMethodDescriptor y.desc).map (fun d => d.parameters.length) = some n)
    (hR : (rm.cells = 0 ∧ rm.slots = 0) ∧ rm.frames + 1 ≤ R.frames ∧ 8 + (maxL + 11) + rm.locals ≤ R.locals) (q0 ci : Nat) {q : vw_C} {fs : List Value} (hc : vwCl[ci]? = some q) (hC : q.1 = C) (he : wc[q0]? = some (b, .inr (ci, fs)))
    (hn : As.length = n) (hst : st = As.reverse ++ .ref b :: rest) (hW : (rest.map fun v => v.category).sum ≤ 8) (hdg : decode cc pc = .ok (.invokevirtual index, 3)) (hcs : cells ≤ R.cells ∧ slots ≤ R.slots)
    (kk : ∀ (H1 : Heap) (locs1 : List Loc), va_P D vwCl w1 H1 → va_D A w1 → va_S A H0 H1 locs1 → W p l e R s m args below meth c H1 locs1 cells slots Q (F0 m (pc + 3) ls (ov.toList ++ rest))) : W p l e R s m args below meth c H locs cells slots Q (F0 m pc ls st) := by
  subst hst
  subst hC
  have hPc := S.part hP
  exact cs_M S hP hD hS (W.runV (As := As) (rest := rest) ⟨hx, hb, hml, hown, hts⟩ hM (cwV n hts hG hw hR.1.1 hR.1.2 hd hR.2) ⟨MB.blind, va_recv hK hPc hc he, fun U hU hW => ⟨rfl, by rw [hU]; exact hPc, va_K.moved hW.alike hK, hN.warm hW, S.2.1 hD⟩⟩ rfl hn hl rfl (lv_room (rest := As.reverse ++ .ref b :: rest) hW) hdg hcs) kk
end CALLS
/-- a void call, and one with an answer, as the rows behind them want it -/
theorem tl_n {rest : List Value} : (none : Option Value).toList ++ rest = rest := rfl
