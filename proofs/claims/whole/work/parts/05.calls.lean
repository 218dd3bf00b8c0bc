/-! CALLS OVER OUR OWN WORLD: what the tables say of a call by its place; the callee's contract in; the whole world goes with it. -/
theorem zG_ok {y : MethodName} {b : ByteArray} {n : Nat} {ret : Option FieldType} (h : Cond.code y b n ret ∈ zTb) : GoodIn zTb (zws y b n ret) := by
  intro w hw
  have h1 : w ∈ zTb := (List.mem_cons.mp hw).elim (fun q => q ▸ h) id
  exact ⟨h1, good_of_word (List.mem_filter.mp h1).2⟩
def zDc (y : MethodName) (n : Nat) : Prop := y.cls ≠ "java/lang/invoke/MethodHandle" ∧ y.cls ≠ "java/lang/invoke/VarHandle" ∧ (parseMethodDescriptor y.desc).map (fun d => d.parameters.length) = some n
def zCV (own : String) (idx : Nat) (y : MethodName) (b : ByteArray) (maxL : Nat) (ret : Option FieldType) (n ci : Nat) : Prop := Cond.methodLink own idx y ∈ zTb ∧ Cond.instanceMethod y ∈ zTb ∧ Cond.selects y.cls y y ∈ zTb ∧ Cond.initialized y.cls ∈ zTb ∧ Cond.code y b maxL ret ∈ zTb ∧ zDc y n ∧ ci < 90 ∧ ∃ q : vw_C, zCl[ci]? = some q ∧ q.1 = y.cls
def zCS (own : String) (idx : Nat) (y : MethodName) (b : ByteArray) (maxL : Nat) (ret : Option FieldType) (n : Nat) : Prop := Cond.methodLink own idx y ∈ zTb ∧ Cond.static y ∈ zTb ∧ Cond.initialized y.cls ∈ zTb ∧ Cond.code y b maxL ret ∈ zTb ∧ zDc y n
def zCN (own : String) (idx : Nat) (y : MethodName) (b : ByteArray) (maxL : Nat) (ret : Option FieldType) (n : Nat) : Prop := Cond.methodLinkNest own idx y "AllHome" ∈ zNs ∧ Cond.static y ∈ zTb ∧ Cond.initialized y.cls ∈ zTb ∧ Cond.code y b maxL ret ∈ zTb ∧ zDc y n
theorem zU_blind {G : zG} {K : Nat} {h : zH} {av : List Value} : FrameBlind (zPc G K h av) := by
  intro a U g mk q
  obtain ⟨q0, qP, qD, qK, qS, qN⟩ := q
  have hr : U.vm.Alike (U.calling g mk a).vm := Vm.Alike.refl U.vm
  exact ⟨q0, qP, qD, va_K.moved hr qK, fun i hi => ⟨(qS i hi).1.moved hr, (qS i hi).2.moved hr⟩, fun w hw => va_Nw.same (u := U) (U := U.calling g mk a) (zNs_on w hw) rfl (qN w hw)⟩
section ZC
variable {p : Program} {l : Launch} {e : Env} {R : Room} {s : State} {m : MethodId} {args : Array Value} {below : List Frame} {meth : Method} {c : Code} {H : Heap} {locs : List Loc} {cells slots : Nat} {Q : State → Prop}
variable {cc : ByteArray} {pc : Nat} {ls : Array Slot} {rest st0 : List Value} {own : String} {nL : Nat} {ret : Option FieldType} {G : zG} {K : Nat} {A : Nat → Prop} {h h' : zH}
variable {y : MethodName} {b : ByteArray} {maxL idx n d ci a : Nat} {As : List Value}
theorem zU_of (X : zX p s m args meth c own cc nL ret G A) (hI : zI G K s A H locs h) {U : State} (hU : U.heap = H) (hW : s.WarmedH U.vm) : zU G K h U := by
  obtain ⟨hx, hb, hml, hown, hts, -, -, hK, hST, hNs⟩ := X
  exact ⟨by rw [hU]; exact hI.1, zD_self hI.2.1, va_K.moved hW.alike hK, hST.go hI.2.2 hU hW.alike (zA_in hI.2.1), zNs_warm hW hNs⟩
theorem z_runV {Qc : Array Value → State → Outcome → State → Prop} {rt : Option FieldType} (X : zX p s m args meth c own cc nL ret G A) (hI : zI G K s A H locs h) (hls : ls.size = nL) (hM : Met l y (zws y b maxL rt) (zR d) (zPc G K h (.ref (G.1 a) :: As)) Qc 0 0 (zA G K)) (hC : zCV own idx y b maxL rt n ci) (hn : As.length = n) (hcls : zcls h a = ci) (hrest : (rest.map fun v => v.category).sum ≤ 8) (hR : d + 1 ≤ R.frames ∧ 8 + (maxL + 11) + 60 * d ≤ R.locals ∧ cells ≤ R.cells ∧ slots ≤ R.slots) (hst : st0 = As.reverse ++ .ref (G.1 a) :: rest) (hdg : decode cc pc = .ok (.invokevirtual idx, 3)) :
    va_Run p l e R s m args below meth c H locs cells slots 0 0 (F0 m pc ls st0) rest (Qc (Value.ref (G.1 a) :: As).toArray) (zA G K) := by
  have hU := fun (U : State) (hU : U.heap = H) (hW : s.WarmedH U.vm) => zU_of X hI hU hW
  obtain ⟨hx, hb, hml, hown, hts, -, -, hK, hST, hNs⟩ := X
  obtain ⟨c1, c2, c3, c4, c5, c6, c90, q, hq, hqc⟩ := hC
  obtain ⟨fs, ha⟩ := zat_O hcls c90
  have hk := zlt hI ha (znO c90)
  refine va_runV (C := y.cls) (As := As) (rest := rest) (n := n) (bytes := b) (maxL := maxL) (ret := rt) ⟨hx, hb, hml, hown, hts⟩ hM ⟨callB_of n hts (zG_ok c5) rfl rfl rfl (hts _ c4) (hts _ c1) c6 ⟨hR.1, hR.2.1⟩, hts _ c2, hts _ c3⟩ ⟨zU_blind, ?_, fun U hU1 hW => ⟨rfl, hU U hU1 hW⟩⟩ rfl hn hls hst (lv_room hrest) hdg hR.2.2
  rw [← hqc]
  exact va_recv hK hI.1.2 (ci := ci) (q0 := a) hq (by rw [zW_get hk, ha]; rfl)
theorem z_runS {Qc : Array Value → State → Outcome → State → Prop} {rt : Option FieldType} (X : zX p s m args meth c own cc nL ret G A) (hI : zI G K s A H locs h) (hls : ls.size = nL) (hM : Met l y (zws y b maxL rt) (zR d) (zPc G K h As) Qc 0 0 (zA G K)) (hC : zCS own idx y b maxL rt n) (hn : As.length = n) (hrest : (rest.map fun v => v.category).sum ≤ 8) (hR : d + 1 ≤ R.frames ∧ 8 + (maxL + 11) + 60 * d ≤ R.locals ∧ cells ≤ R.cells ∧ slots ≤ R.slots) (hst : st0 = As.reverse ++ rest) (hdg : decode cc pc = .ok (.invokestatic idx, 3)) :
    va_Run p l e R s m args below meth c H locs cells slots 0 0 (F0 m pc ls st0) rest (Qc As.toArray) (zA G K) := by
  have hU := fun (U : State) (hU : U.heap = H) (hW : s.WarmedH U.vm) => zU_of X hI hU hW
  obtain ⟨hx, hb, hml, hown, hts, -, -, hK, hST, hNs⟩ := X
  obtain ⟨c1, c2, c4, c5, c6⟩ := hC
  exact va_runS (As := As) (rest := rest) (n := n) (bytes := b) (maxL := maxL) (ret := rt) ⟨hx, hb, hml, hown, hts⟩ hM ⟨callB_of n hts (zG_ok c5) rfl rfl rfl (hts _ c4) (hts _ c1) c6 ⟨hR.1, hR.2.1⟩, hts _ c2⟩ ⟨zU_blind, fun U hU1 hW => ⟨rfl, hU U hU1 hW⟩⟩ rfl hn hls hst (lv_room hrest) hdg hR.2.2
theorem z_runN {Qc : Array Value → State → Outcome → State → Prop} {rt : Option FieldType} (X : zX p s m args meth c own cc nL ret G A) (hI : zI G K s A H locs h) (hls : ls.size = nL) (hM : Met l y (zws y b maxL rt) (zR d) (zPc G K h As) Qc 0 0 (zA G K)) (hC : zCN own idx y b maxL rt n) (hn : As.length = n) (hrest : (rest.map fun v => v.category).sum ≤ 8) (hR : d + 1 ≤ R.frames ∧ 8 + (maxL + 11) + 60 * d ≤ R.locals ∧ cells ≤ R.cells ∧ slots ≤ R.slots) (hst : st0 = As.reverse ++ rest) (hdg : decode cc pc = .ok (.invokestatic idx, 3)) :
    va_Run p l e R s m args below meth c H locs cells slots 0 0 (F0 m pc ls st0) rest (Qc As.toArray) (zA G K) := by
  have hU := fun (U : State) (hU : U.heap = H) (hW : s.WarmedH U.vm) => zU_of X hI hU hW
  obtain ⟨hx, hb, hml, hown, hts, -, -, hK, hST, hNs⟩ := X
  obtain ⟨c1, c2, c4, c5, c6⟩ := hC
  exact va_runSN (As := As) (rest := rest) (n := n) (bytes := b) (maxL := maxL) (ret := rt) ⟨hx, hb, hml, hown, hts⟩ hM ⟨va_cnB n hts (zG_ok c5) rfl rfl rfl (hNs _ c1) (hts _ c4) c6 ⟨hR.1, hR.2.1⟩, hts _ c2, trivial⟩ ⟨zU_blind, fun U hU1 hW => ⟨rfl, hU U hU1 hW⟩⟩ rfl hn hls hst (lv_room hrest) hdg hR.2.2
theorem z_ci {av : Array Value} {r : Int32} (hI : zI G K s A H locs h) (hr : va_Run p l e R s m args below meth c H locs cells slots 0 0 (F0 m pc ls st0) rest (zQi G K r h' av) (zA G K))
    (kk : ∀ (H1 : Heap) (locs1 : List Loc), zI G K s A H1 locs1 h' → W p l e R s m args below meth c H1 locs1 cells slots Q (F0 m (pc + 3) ls (.int r :: rest))) : W p l e R s m args below meth c H locs cells slots Q (F0 m pc ls st0) := by
  refine va_calli hr hI.2.2 (fun q _ => zA_in hI.2.1 q) (zA_in hI.2.1) (fun r' u t H1 locs1 ht hvm hp hB hz hk hS => ?_)
  subst hp
  exact kk H1 locs1 ⟨by rw [← ht]; exact hB, zD_any _ hI.2.1, hS⟩
theorem z_cl {av : Array Value} {r : Int64} (hI : zI G K s A H locs h) (hr : va_Run p l e R s m args below meth c H locs cells slots 0 0 (F0 m pc ls st0) rest (zQl G K r h' av) (zA G K))
    (kk : ∀ (H1 : Heap) (locs1 : List Loc), zI G K s A H1 locs1 h' → W p l e R s m args below meth c H1 locs1 cells slots Q (F0 m (pc + 3) ls (.long r :: rest))) : W p l e R s m args below meth c H locs cells slots Q (F0 m pc ls st0) := by
  refine va_calll hr hI.2.2 (fun q _ => zA_in hI.2.1 q) (zA_in hI.2.1) (fun r' u t H1 locs1 ht hvm hp hB hz hk hS => ?_)
  subst hp
  exact kk H1 locs1 ⟨by rw [← ht]; exact hB, zD_any _ hI.2.1, hS⟩
theorem z_cv {av : Array Value} (hI : zI G K s A H locs h) (hr : va_Run p l e R s m args below meth c H locs cells slots 0 0 (F0 m pc ls st0) rest (zQv G K h' av) (zA G K))
    (kk : ∀ (H1 : Heap) (locs1 : List Loc), zI G K s A H1 locs1 h' → W p l e R s m args below meth c H1 locs1 cells slots Q (F0 m (pc + 3) ls rest)) : W p l e R s m args below meth c H locs cells slots Q (F0 m pc ls st0) := by
  refine va_callv hr hI.2.2 (fun q _ => zA_in hI.2.1 q) (zA_in hI.2.1) (fun u t H1 locs1 ht hvm hp hB hz hk hS => ?_)
  exact kk H1 locs1 ⟨by rw [← ht]; exact hB, zD_any _ hI.2.1, hS⟩
end ZC
/-- a contract out of a walk from its entry -/
theorem zMet {l : Launch} {y : MethodName} {b : ByteArray} {n d : Nat} {rt : Option FieldType} {G : zG} {K : Nat} {h : zH} {av : List Value} {Qc : Array Value → State → Outcome → State → Prop} (hy : plainName y.cls = true) (hlen : (lg_sl av).length ≤ n)
    (body : ∀ (p : Program) (e : Env) (s : State) (m : MethodId) (below : List Frame) (meth : Method) (c : Code) (ls : Array Slot), zX p s m av.toArray meth c y.cls b n rt G (zA G K) → zI G K s (zA G K) s.heap [] h → lv_has ls n (lv_args 0 av) → W p l e (zR d) s m av.toArray below meth c s.heap [] 0 0 (MQ below Qc av.toArray s 0 0 (zA G K)) (F0 m 0 ls [])) : Met l y (zws y b n rt) (zR d) (zPc G K h av) Qc 0 0 (zA G K) := by
  refine Met.ofW (cc := b) (maxL := n) (ret := rt) hy rfl ?_
  intro p e s m args below meth c s₁ B hml hv
  obtain ⟨rfl, hP, hD, hK, hST, hNs⟩ := hv
  have hts := atoms_spec (ws := zws y b n rt) B.pre
  have hl := lv_entry av (n := n) hlen
  rw [lg_entry_eq]
  exact body p e s m below meth c _ ⟨B.exec, B.bytes, hml, findClass_of_methodNamed B.named, fun w hw => hts w (List.mem_cons_of_mem _ hw), B.returns, B.notSynchronized, hK, hST, hNs⟩ ⟨hP, hD, va_S.rf⟩ hl
theorem zs1 {α : Type} {a r : α} (h : some a = some r) : r = a := (Option.some.inj h).symm
theorem zs2 {α β : Type} {a r : α} {b q : β} (h : some (a, b) = some (r, q)) : r = a ∧ q = b := by
  have h1 := Option.some.inj h
  exact ⟨(congrArg Prod.fst h1).symm, (congrArg Prod.snd h1).symm⟩
