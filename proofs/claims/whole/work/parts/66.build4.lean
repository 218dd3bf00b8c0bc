/-! BUILDING THE WORLD: fields, rows of references, calls of constructors -/
def bX (s : State) : Prop := bAO s ∧ va_AO "AllHome$Run" s ∧ va_AO "AllHome$Shelf" s
theorem bX.moved {u U : State} (hvm : u.vm.Alike U.vm) (h : bX u) : bX U := ⟨h.1.moved hvm, h.2.1.moved hvm, h.2.2.moved hvm⟩
abbrev bRoom (d nc ns : Nat) : Room := { frames := d, cells := nc, slots := ns, locals := 60 * d }
def bU (G : zG) (S0 K : Nat) (h : zH) (U : State) : Prop := zP G K h U.heap ∧ U.heap.size = S0 + K ∧ va_K G.2.2.2 zCl (zty G) U ∧ zST G (bA S0) U ∧ (∀ w ∈ zNs, va_Nw w U) ∧ bX U
abbrev bPc (G : zG) (S0 K : Nat) (h : zH) (av : List Value) : Array Value → State → Prop := va_Pc av (bU G S0 K h)
abbrev bQ (G : zG) (S0 K : Nat) (h : zH) : Array Value → State → Outcome → State → Prop := va_Qv (S := Unit) (fun _ => True) (fun _ t => zP G K h t.heap ∧ t.heap.size = S0 + K) (bA S0)
abbrev bMt (l : Launch) (G : zG) (S0 K : Nat) (y : MethodName) (b : ByteArray) (n d nc ns : Nat) (av : List Value) (h : zH) (K' : Nat) (h' : zH) : Prop := Met l y (zws y b n none) (bRoom d nc ns) (bPc G S0 K h av) (bQ G S0 K' h') nc ns (bA S0)
def zCI (own : String) (idx : Nat) (y : MethodName) (b : ByteArray) (maxL n : Nat) : Prop := Cond.methodLink own idx y ∈ zTb ∧ Cond.instanceMethod y ∈ zTb ∧ Cond.initialized y.cls ∈ zTb ∧ Cond.code y b maxL none ∈ zTb ∧ zDc y n ∧ y.name = "<init>"
def zCJ (own : String) (idx : Nat) (y : MethodName) (b : ByteArray) (maxL n : Nat) : Prop := Cond.methodLinkNest own idx y "AllHome" ∈ zNs ∧ Cond.instanceMethod y ∈ zTb ∧ Cond.initialized y.cls ∈ zTb ∧ Cond.code y b maxL none ∈ zTb ∧ zDc y n ∧ y.name = "<init>"
theorem bU_blind {G : zG} {S0 K : Nat} {h : zH} {av : List Value} : FrameBlind (bPc G S0 K h av) := by
  intro a U g mk q
  obtain ⟨q0, qP, qz, qK, qS, qN, qX⟩ := q
  have hr : U.vm.Alike (U.calling g mk a).vm := Vm.Alike.refl U.vm
  exact ⟨q0, qP, qz, va_K.moved hr qK, fun i hi => ⟨(qS i hi).1.moved hr, (qS i hi).2.moved hr⟩, fun w hw => va_Nw.same (u := U) (U := U.calling g mk a) (zNs_on w hw) rfl (qN w hw), qX.moved hr⟩
section BR3
variable {p : Program} {l : Launch} {e : Env} {R : Room} {s : State} {m : MethodId} {args : Array Value} {below : List Frame} {meth : Method} {c : Code} {H : Heap} {locs : List Loc} {cells slots : Nat} {Q : State → Prop}
variable {cc : ByteArray} {pc : Nat} {ls : Array Slot} {rest st0 : List Value} {own : String} {nL : Nat} {ret : Option FieldType} {G : zG} {K S0 : Nat} {h h' : zH}
theorem b_sw {Y : zH} {a : Nat} {e z : zE} {K1 K2 : Nat} (ha : a ≠ K) (hI : zI G K1 s (bA S0) H locs (zup (zup Y a e) K z)) (hk : K1 = K2) : zI G K2 s (bA S0) H locs (zup (zup Y K z) a e) := by
  rw [zup_comm ha, hk] at hI
  exact hI
theorem b_swm {Y : zH} {a N M : Nat} {e : zE} {K1 K2 : Nat} (ha : a < K) (hI : zI G K1 s (bA S0) H locs (zmul (zup Y a e) K N M)) (hk : K1 = K2) : zI G K2 s (bA S0) H locs (zup (zmul Y K N M) a e) := by
  have : zmul (zup Y a e) K N M = zup (zmul Y K N M) a e := by
    funext k
    unfold zmul zup
    by_cases q : k = a
    · rw [if_neg (by omega), if_neg (by omega), if_pos q, if_pos q]
    · rw [if_neg q, if_neg q]
  rw [this, hk] at hI
  exact hI
theorem b_zw {Y : zH} {a ci j : Nat} {fs : List Value} {v : Value} (hj : j < fs.length) : zwV (zup Y a (.inl (ci, fs))) a ci j v = some (zup Y a (.inl (ci, fs.set j v))) := by
  unfold zwV
  rw [zup_eq]
  simp only [true_and, hj, if_true, zup_zup]
theorem b_putF (X : zX p s m args meth c own cc nL ret G (bA S0)) (hin0 : meth.name = "<init>") {Y : zH} {index ci j a : Nat} {fs : List Value} (hI : zI G K s (bA S0) H locs (zup Y a (.inl (ci, fs)))) {ty : FieldType} (hF : zFp own index ci j ty true) {v : Value} (hj : j < fs.length) (hn : narrow ty (zV G.1 v) = zV G.1 v) (hfit : fits ty (zV G.1 v) = true) (hdg : decode cc pc = .ok (.putfield index, 3))
    (kk : ∀ (H1 : Heap) (locs1 : List Loc), zI G K s (bA S0) H1 locs1 (zup Y a (.inl (ci, fs.set j v))) → W p l e R s m args below meth c H1 locs1 cells slots Q (F0 m (pc + 3) ls rest)) : W p l e R s m args below meth c H locs cells slots Q (F0 m pc ls (zV G.1 v :: .ref (G.1 a) :: rest)) := z_putF X hin0 hI hF (b_zw hj) hn hfit hdg kk
theorem b_putV (X : zX p s m args meth c own cc nL ret G (bA S0)) {Y : zH} {index ci j a : Nat} {fs : List Value} (hI : zI G K s (bA S0) H locs (zup Y a (.inl (ci, fs)))) {ty : FieldType} (hF : zFp own index ci j ty false) {v : Value} (hj : j < fs.length) (hn : narrow ty (zV G.1 v) = zV G.1 v) (hfit : fits ty (zV G.1 v) = true) (hdg : decode cc pc = .ok (.putfield index, 3))
    (kk : ∀ (H1 : Heap) (locs1 : List Loc), zI G K s (bA S0) H1 locs1 (zup Y a (.inl (ci, fs.set j v))) → W p l e R s m args below meth c H1 locs1 cells slots Q (F0 m (pc + 3) ls rest)) : W p l e R s m args below meth c H locs cells slots Q (F0 m pc ls (zV G.1 v :: .ref (G.1 a) :: rest)) := z_putV X hI hF (b_zw hj) hn hfit hdg kk
theorem b_getR (X : zX p s m args meth c own cc nL ret G (bA S0)) {index ci j a x : Nat} (hI : zI G K s (bA S0) H locs h) {fs : List Value} (ha : h a = .inl (ci, fs)) (hF : zFd own index ci j) (hj : fs[j]? = some (.ref x)) (hdg : decode cc pc = .ok (.getfield index, 3))
    (kk : W p l e R s m args below meth c H locs cells slots Q (F0 m (pc + 3) ls (.ref (G.1 x) :: rest))) : W p l e R s m args below meth c H locs cells slots Q (F0 m pc ls (.ref (G.1 a) :: rest)) := z_getV X hI hF ha hj hdg kk
/-- an object into a row of its class -/
theorem b_ast (X : zX p s m args meth c own cc nL ret G (bA S0)) (hI : zI G K s (bA S0) H locs h) {a v ci t N i : Nat} {f : Nat → Option Nat} {r : vw_C} {fs : List Value} (ha : h a = zRf t N f) (hv : h v = .inl (ci, fs)) (hci : ci < 90) (hc : zCl[ci]? = some r) (ht : (zty G)[t]? = some (G.2.1 t, .object r.1)) (hi : i < N) (hN : N < 100000) (hdg : decode cc pc = .ok (.aastore, 1))
    (kk : ∀ (H1 : Heap) (locs1 : List Loc), zI G K s (bA S0) H1 locs1 (zup h a (zRf t N (fun k => if k = i then some v else f k))) → W p l e R s m args below meth c H1 locs1 cells slots Q (F0 m (pc + 1) ls rest)) : W p l e R s m args below meth c H locs cells slots Q (F0 m pc ls (.ref (G.1 v) :: .int (nI i) :: .ref (G.1 a) :: rest)) := by
  obtain ⟨hx, hb, hml, hown, hts, -, -, hK, -, -⟩ := X
  have ka := zlt hI ha znR
  have kv := zlt hI hv (znO hci)
  refine va_astq (r := r) (n := N) (vs := fs.map (zV G.1)) (f := fun k => (f k).map G.1) hx hb hK hI.1.2 hI.2.1 hI.2.2 a t v ci (by rw [zW_get ka, ha]; rfl) ht (by rw [zW_get kv, hv]; rfl) hc (vp_in_nI hi (by omega)) hdg (fun H1 locs1 hP hD hS => ?_)
  refine kk H1 locs1 (zI_put hI ka ?_ hP hS)
  rw [nI_clamp (by omega)]
  have e : (va_up (fun k => (f k).map G.1) i (some (G.1 v))) = fun k => (if k = i then some v else f k).map G.1 := by
    funext k
    unfold va_up
    by_cases q : k = i
    · rw [if_pos q, if_pos q]; rfl
    · rw [if_neg q, if_neg q]
  rw [e]
  rfl
theorem bU_of (X : zX p s m args meth c own cc nL ret G (bA S0)) (Y : bX s) (hI : zI G K s (bA S0) H locs h) (hs : H.size = S0 + K) {U : State} (hU : U.heap = H) (hW : s.WarmedH U.vm) : bU G S0 K h U := by
  obtain ⟨hx, hb, hml, hown, hts, -, -, hK, hST, hNs⟩ := X
  exact ⟨by rw [hU]; exact hI.1, by rw [hU]; exact hs, va_K.moved hW.alike hK, hST.go hI.2.2 hU hW.alike (fun _ w => w), zNs_warm hW hNs, Y.moved hW.alike⟩
theorem b_call {y : MethodName} {b : ByteArray} {maxL idx n d nc ns a K' : Nat} {As : List Value} (X : zX p s m args meth c own cc nL ret G (bA S0)) (Y : bX s) (hI : zI G K s (bA S0) H locs h) (hG : bG1 G S0) (hz : bz s S0 K cells) (hls : ls.size = nL) (hM : bMt l G S0 K y b maxL d nc ns (.ref (G.1 a) :: As) h K' h') (hC : zCI own idx y b maxL n) (hn : As.length = n) (hrest : (rest.map fun v => v.category).sum ≤ 8) (hR : d + 1 ≤ R.frames ∧ 8 + (maxL + 11) + 60 * d ≤ R.locals ∧ cells + nc ≤ R.cells ∧ slots + ns ≤ R.slots) (hst : st0 = As.reverse ++ .ref (G.1 a) :: rest) (hdg : decode cc pc = .ok (.invokespecial idx, 3))
    (kk : ∀ (H1 : Heap) (locs1 : List Loc), zI G K' s (bA S0) H1 locs1 h' → W p l e R s m args below meth c H1 locs1 (cells + nc) (slots + ns) Q (F0 m (pc + 3) ls rest)) : W p l e R s m args below meth c H locs cells slots Q (F0 m pc ls st0) := by
  refine b_size hI hG hz fun hs => ?_
  have hU := fun (U : State) (hU : U.heap = H) (hW : s.WarmedH U.vm) => bU_of X Y hI hs hU hW
  obtain ⟨hx, hb, hml, hown, hts, -, -, hK, hST, hNs⟩ := X
  obtain ⟨c1, c2, c3, c4, c5, c6⟩ := hC
  have hrun := va_runI (l := l) (e := e) (below := below) (meth := meth) (cells := cells) (slots := slots) (locs := locs) (g := F0 m pc ls st0) (As := As) (rest := rest) (n := n) (bytes := b) (maxL := maxL) (b := G.1 a) ⟨hx, hb, hml, hown, hts⟩ hM (cwI n hts (zG_ok c4) rfl rfl rfl (hts _ c3) (hts _ c1) (hts _ c2) c6 c5 ⟨hR.1, hR.2.1⟩) ⟨bU_blind, fun U hU1 hW => ⟨rfl, hU U hU1 hW⟩⟩ rfl hn hls hst (lv_room hrest) hdg hR.2.2
  refine va_callv hrun hI.2.2 (fun q _ w => w) (fun q w => w) (fun u t H1 locs1 ht hvm hp hB hz1 hk hS => ?_)
  exact kk H1 locs1 ⟨by rw [← ht]; exact hB.1, bD hG K' h', hS⟩
theorem b_callN {y : MethodName} {b : ByteArray} {maxL idx n d nc ns a K' : Nat} {As : List Value} (X : zX p s m args meth c own cc nL ret G (bA S0)) (Y : bX s) (hI : zI G K s (bA S0) H locs h) (hG : bG1 G S0) (hz : bz s S0 K cells) (hls : ls.size = nL) (hM : bMt l G S0 K y b maxL d nc ns (.ref (G.1 a) :: As) h K' h') (hC : zCJ own idx y b maxL n) (hn : As.length = n) (hrest : (rest.map fun v => v.category).sum ≤ 8) (hR : d + 1 ≤ R.frames ∧ 8 + (maxL + 11) + 60 * d ≤ R.locals ∧ cells + nc ≤ R.cells ∧ slots + ns ≤ R.slots) (hst : st0 = As.reverse ++ .ref (G.1 a) :: rest) (hdg : decode cc pc = .ok (.invokespecial idx, 3))
    (kk : ∀ (H1 : Heap) (locs1 : List Loc), zI G K' s (bA S0) H1 locs1 h' → W p l e R s m args below meth c H1 locs1 (cells + nc) (slots + ns) Q (F0 m (pc + 3) ls rest)) : W p l e R s m args below meth c H locs cells slots Q (F0 m pc ls st0) := by
  refine b_size hI hG hz fun hs => ?_
  have hU := fun (U : State) (hU : U.heap = H) (hW : s.WarmedH U.vm) => bU_of X Y hI hs hU hW
  obtain ⟨hx, hb, hml, hown, hts, -, -, hK, hST, hNs⟩ := X
  obtain ⟨c1, c2, c3, c4, c5, c6⟩ := hC
  have hrun := va_runIN (l := l) (e := e) (below := below) (meth := meth) (cells := cells) (slots := slots) (locs := locs) (g := F0 m pc ls st0) (As := As) (rest := rest) (n := n) (bytes := b) (maxL := maxL) (b := G.1 a) ⟨hx, hb, hml, hown, hts⟩ hM ⟨va_cnB n hts (zG_ok c4) rfl rfl rfl (hNs _ c1) (hts _ c3) c5 ⟨hR.1, hR.2.1⟩, c6, hts _ c2⟩ ⟨bU_blind, fun U hU1 hW => ⟨rfl, hU U hU1 hW⟩⟩ rfl hn hls hst (lv_room hrest) hdg hR.2.2
  refine va_callv hrun hI.2.2 (fun q _ w => w) (fun q w => w) (fun u t H1 locs1 ht hvm hp hB hz1 hk hS => ?_)
  exact kk H1 locs1 ⟨by rw [← ht]; exact hB.1, bD hG K' h', hS⟩
theorem b_vret {K' nc ns : Nat} (X : zX p s m args meth c own cc nL none G (bA S0)) (hI : zI G K' s (bA S0) H locs h') (hG : bG1 G S0) (hz : bz s S0 K' nc) (hdg : decode cc pc = .ok (.return_, 1)) : W p l e R s m args below meth c H locs nc ns (MQ below (bQ G S0 K' h') args s nc ns (bA S0)) (F0 m pc ls []) := by
  refine b_size hI hG hz fun hs => ?_
  obtain ⟨hx, hb, hml, hown, hts, hr, hlocks, hK, hST, -⟩ := X
  exact W.vret hx hb hr (fun t ht hW => ⟨⟨(), rfl, trivial, by rw [ht]; exact hI.1, by rw [ht]; exact hs⟩, hI.2.2.F ht⟩) hI.2.2.2.2 hdg hlocks
end BR3
theorem b_met {l : Launch} {y : MethodName} {b : ByteArray} {n d nc ns : Nat} {G : zG} {S0 K K' : Nat} {h h' : zH} {av : List Value} (hy : plainName y.cls = true) (hyn : y.name = "<init>") (hlen : (lg_sl av).length ≤ n) (hG : bG1 G S0)
    (body : ∀ (p : Program) (e : Env) (s : State) (m : MethodId) (below : List Frame) (meth : Method) (c : Code) (ls : Array Slot), zX p s m av.toArray meth c y.cls b n none G (bA S0) → bX s → meth.name = "<init>" → bz s S0 K 0 → zI G K s (bA S0) s.heap [] h → lv_has ls n (lv_args 0 av) → W p l e (bRoom d nc ns) s m av.toArray below meth c s.heap [] 0 0 (MQ below (bQ G S0 K' h') av.toArray s nc ns (bA S0)) (F0 m 0 ls [])) : bMt l G S0 K y b n d nc ns av h K' h' := by
  refine Met.ofW (cc := b) (maxL := n) (ret := none) hy rfl ?_
  intro p e s m args below meth c s₁ B hml hv
  obtain ⟨rfl, hP, hsz, hK, hST, hNs, hX⟩ := hv
  have hts := atoms_spec (ws := zws y b n none) B.pre
  have hin : meth.name = "<init>" := ((name_of_methodNamed B.named B.method).1).trans hyn
  have hl := lv_entry av (n := n) hlen
  rw [lg_entry_eq]
  exact body p e s m below meth c _ ⟨B.exec, B.bytes, hml, findClass_of_methodNamed B.named, fun w hw => hts w (List.mem_cons_of_mem _ hw), B.returns, B.notSynchronized, hK, hST, hNs⟩ hX hin ⟨hsz, Nat.zero_le _⟩ ⟨hP, bD hG K h, va_S.rf⟩ hl
