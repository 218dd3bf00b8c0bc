/-! ROWS OVER OUR OWN WORLD: an instruction that reads or writes cells, a call, an end. -/
theorem zlt {G : zG} {K : Nat} {s : State} {A : Nat → Prop} {H : Heap} {locs : List Loc} {h : zH} (hI : zI G K s A H locs h) {a : Nat} {e : zE} (ha : h a = e) (he : e ≠ zNil) : a < K := by
  rcases Nat.lt_or_ge a K with q | q
  · exact q
  · exact absurd (ha.symm.trans (hI.1.1 a q)) he
theorem znO {c : Nat} {fs : List Value} (h : c < 90) : (Sum.inl (c, fs) : zE) ≠ zNil := by
  intro q
  unfold zNil at q
  have := congrArg (fun z : zE => match z with | .inl o => o.1 | _ => 0) q
  simp at this
  omega
theorem znR {x : Nat × Nat × ((Nat → Int32) ⊕ (Nat → Int64) ⊕ (Nat → Option Nat))} : (Sum.inr x : zE) ≠ zNil := by
  intro q
  unfold zNil at q
  cases q
theorem zI_put {G : zG} {K : Nat} {s : State} {A : Nat → Prop} {H H1 : Heap} {locs locs1 : List Loc} {h : zH} {a : Nat} {e : zE} (hI : zI G K s A H locs h) (ha : a < K) {x : Nat × va_E} (hx : x = (G.1 a, zT G e)) (hP : va_P G.2.2.2 zCl ((zW G K h).set a x) H1) (hS : va_S A s.heap H1 locs1) : zI G K s A H1 locs1 (zup h a e) := by
  rw [zW_set hx] at hP
  refine ⟨⟨fun k hk => ?_, hP⟩, zD_any _ hI.2.1, hS⟩
  rw [zup_ne (by omega)]
  exact hI.1.1 k hk
/-- what the tables say of a field by its place in a class file -/
def zFd (own : String) (index ci j : Nat) : Prop := ci < 90 ∧ ∃ (C : String) (T : u_T) (N : Nat), zCl[ci]? = some (C, T, N) ∧ (∀ w ∈ u_ws C T N, w ∈ zTb) ∧ j < N ∧ Cond.fieldLink own index (T j).1 (T j).2.1 (T j).2.2.1 ∈ zTb
def zFp (own : String) (index ci j : Nat) (ty : FieldType) (fin : Bool) : Prop := ci < 90 ∧ ∃ (C : String) (T : u_T) (N : Nat) (ty0 : Nat → FieldType), zCl[ci]? = some (C, T, N) ∧ (∀ w ∈ u_ws C T N, w ∈ zTb) ∧ j < N ∧ Cond.fieldLink own index (T j).1 (T j).2.1 (T j).2.2.1 ∈ zTb ∧ (∀ k, k < N → parseFieldDescriptor (T k).2.2.1 = some (ty0 k)) ∧ (∀ a, a < N → ∀ b, b < N → a ≠ b → (T a).2.1 ≠ (T b).2.1) ∧ parseFieldDescriptor (T j).2.2.1 = some ty ∧ (T j).2.2.2 = fin ∧ (T j).1 = own
section ZR
variable {p : Program} {l : Launch} {e : Env} {R : Room} {s : State} {m : MethodId} {args : Array Value} {below : List Frame} {meth : Method} {c : Code} {H : Heap} {locs : List Loc} {cells slots : Nat} {Q : State → Prop}
variable {cc : ByteArray} {pc : Nat} {ls : Array Slot} {rest : List Value} {own : String} {nL : Nat} {ret : Option FieldType} {G : zG} {K : Nat} {A : Nat → Prop} {h h' : zH}
theorem z_getV (X : zX p s m args meth c own cc nL ret G A) (hI : zI G K s A H locs h) {index ci j a : Nat} (hF : zFd own index ci j) {fs : List Value} (ha : h a = .inl (ci, fs)) {v : Value} (hj : fs[j]? = some v) (hdg : decode cc pc = .ok (.getfield index, 3))
    (kk : W p l e R s m args below meth c H locs cells slots Q (F0 m (pc + 3) ls (zV G.1 v :: rest))) : W p l e R s m args below meth c H locs cells slots Q (F0 m pc ls (.ref (G.1 a) :: rest)) := by
  obtain ⟨hx, hb, hml, hown, hts, -, -, hK, -, -⟩ := X
  obtain ⟨h90, C, T, N, hc, hin, hjN, hlink⟩ := hF
  have hk := zlt hI ha (znO h90)
  refine va_get (v := zV G.1 v) (fs := fs.map (zV G.1)) hx hb hts hin hown hK hI.1.2 a (by rw [zW_get hk, ha]; rfl) hc j hjN (hts _ hlink) (fun _ h9 => h9) (by rw [List.getElem?_map, hj]; rfl) hdg kk
theorem z_getI (X : zX p s m args meth c own cc nL ret G A) (hI : zI G K s A H locs h) {index ci j a : Nat} (hF : zFd own index ci j) {x : Int32} (hv : zrI h a ci j = some x) (hdg : decode cc pc = .ok (.getfield index, 3))
    (kk : W p l e R s m args below meth c H locs cells slots Q (F0 m (pc + 3) ls (.int x :: rest))) : W p l e R s m args below meth c H locs cells slots Q (F0 m pc ls (.ref (G.1 a) :: rest)) := by
  obtain ⟨fs, ha, hj⟩ := zrI_at hv
  exact z_getV X hI hF ha hj hdg kk
theorem z_getR (X : zX p s m args meth c own cc nL ret G A) (hI : zI G K s A H locs h) {index ci j a : Nat} (hF : zFd own index ci j) {x : Nat} (hv : zrR h a ci j = some x) (hdg : decode cc pc = .ok (.getfield index, 3))
    (kk : W p l e R s m args below meth c H locs cells slots Q (F0 m (pc + 3) ls (.ref (G.1 x) :: rest))) : W p l e R s m args below meth c H locs cells slots Q (F0 m pc ls (.ref (G.1 a) :: rest)) := by
  obtain ⟨fs, ha, hj⟩ := zrR_at hv
  exact z_getV X hI hF ha hj hdg kk
theorem z_putV (X : zX p s m args meth c own cc nL ret G A) (hI : zI G K s A H locs h) {index ci j a : Nat} {ty : FieldType} (hF : zFp own index ci j ty false) {v : Value} (hv : zwV h a ci j v = some h') (hn : narrow ty (zV G.1 v) = zV G.1 v) (hfit : fits ty (zV G.1 v) = true) (hdg : decode cc pc = .ok (.putfield index, 3))
    (kk : ∀ (H1 : Heap) (locs1 : List Loc), zI G K s A H1 locs1 h' → W p l e R s m args below meth c H1 locs1 cells slots Q (F0 m (pc + 3) ls rest)) : W p l e R s m args below meth c H locs cells slots Q (F0 m pc ls (zV G.1 v :: .ref (G.1 a) :: rest)) := by
  obtain ⟨hx, hb, hml, hown, hts, -, -, hK, -, -⟩ := X
  obtain ⟨h90, C, T, N, ty0, hc, hin, hjN, hlink, hty, hnm, hd, hfin, -⟩ := hF
  obtain ⟨fs, ha, hj, rfl⟩ := zwV_at hv
  have hk := zlt hI ha (znO h90)
  refine va_put (v := zV G.1 v) (fs := fs.map (zV G.1)) hx hb hts hin ty0 hty hnm hown hK hI.1.2 hI.2.1 hI.2.2 a (by rw [zW_get hk, ha]; rfl) hc j hjN (hts _ hlink) (fun _ h9 => h9) hfin hd hn hfit (by rw [List.length_map]; exact hj) hdg (fun H1 locs1 hP hD hS => ?_)
  exact kk H1 locs1 (zI_put hI hk (by rw [zT, List.map_set]) hP hS)
theorem z_putF (X : zX p s m args meth c own cc nL ret G A) (hin0 : meth.name = "<init>") (hI : zI G K s A H locs h) {index ci j a : Nat} {ty : FieldType} (hF : zFp own index ci j ty true) {v : Value} (hv : zwV h a ci j v = some h') (hn : narrow ty (zV G.1 v) = zV G.1 v) (hfit : fits ty (zV G.1 v) = true) (hdg : decode cc pc = .ok (.putfield index, 3))
    (kk : ∀ (H1 : Heap) (locs1 : List Loc), zI G K s A H1 locs1 h' → W p l e R s m args below meth c H1 locs1 cells slots Q (F0 m (pc + 3) ls rest)) : W p l e R s m args below meth c H locs cells slots Q (F0 m pc ls (zV G.1 v :: .ref (G.1 a) :: rest)) := by
  obtain ⟨hx, hb, hml, hown, hts, -, -, hK, -, -⟩ := X
  obtain ⟨h90, C, T, N, ty0, hc, hin, hjN, hlink, hty, hnm, hd, hfin, hdecl⟩ := hF
  obtain ⟨fs, ha, hj, rfl⟩ := zwV_at hv
  have hk := zlt hI ha (znO h90)
  refine va_putF (v := zV G.1 v) (fs := fs.map (zV G.1)) hx hb hts hin ty0 hty hnm hown hK hI.1.2 hI.2.1 hI.2.2 a (by rw [zW_get hk, ha]; rfl) hc j hjN (hts _ hlink) (fun _ h9 => h9) hfin hin0 hdecl hd hn hfit (by rw [List.length_map]; exact hj) hdg (fun H1 locs1 hP hD hS => ?_)
  exact kk H1 locs1 (zI_put hI hk (by rw [zT, List.map_set]) hP hS)
theorem z_putI (X : zX p s m args meth c own cc nL ret G A) (hI : zI G K s A H locs h) {index ci j a : Nat} (hF : zFp own index ci j .int false) {x : Int32} (hv : zwI h a ci j x = some h') (hdg : decode cc pc = .ok (.putfield index, 3))
    (kk : ∀ (H1 : Heap) (locs1 : List Loc), zI G K s A H1 locs1 h' → W p l e R s m args below meth c H1 locs1 cells slots Q (F0 m (pc + 3) ls rest)) : W p l e R s m args below meth c H locs cells slots Q (F0 m pc ls (.int x :: .ref (G.1 a) :: rest)) :=
  z_putV (v := .int x) X hI hF hv rfl rfl hdg kk
theorem z_putZ (X : zX p s m args meth c own cc nL ret G A) (hI : zI G K s A H locs h) {index ci j a : Nat} (hF : zFp own index ci j .boolean false) {x : Int32} (hv : zwZ h a ci j x = some h') (hdg : decode cc pc = .ok (.putfield index, 3))
    (kk : ∀ (H1 : Heap) (locs1 : List Loc), zI G K s A H1 locs1 h' → W p l e R s m args below meth c H1 locs1 cells slots Q (F0 m (pc + 3) ls rest)) : W p l e R s m args below meth c H locs cells slots Q (F0 m pc ls (.int x :: .ref (G.1 a) :: rest)) := by
  unfold zwZ at hv
  split at hv
  · rename_i hc
    exact z_putV (v := .int x) X hI hF hv (by rcases hc with rfl | rfl <;> rfl) (by rcases hc with rfl | rfl <;> rfl) hdg kk
  · cases hv
theorem z_iald (X : zX p s m args meth c own cc nL ret G A) (hI : zI G K s A H locs h) {a : Nat} {i x : Int32} (hv : zaI h a i = some x) (hdg : decode cc pc = .ok (.iaload, 1))
    (kk : W p l e R s m args below meth c H locs cells slots Q (F0 m (pc + 1) ls (.int x :: rest))) : W p l e R s m args below meth c H locs cells slots Q (F0 m pc ls (.int i :: .ref (G.1 a) :: rest)) := by
  obtain ⟨hx, hb, hml, hown, hts, -, -, hK, -, -⟩ := X
  obtain ⟨n, g, ha, hin, rfl⟩ := zA32_at hv
  have hk := zlt hI ha znR
  exact va_iald (n := n) (f := g) hx hb hK hI.1.2 a 0 (by rw [zW_get hk, ha]; rfl) rfl hin hdg kk
theorem z_zald (X : zX p s m args meth c own cc nL ret G A) (hI : zI G K s A H locs h) {a : Nat} {i x : Int32} (hv : zaZ h a i = some x) (hdg : decode cc pc = .ok (.baload, 1))
    (kk : W p l e R s m args below meth c H locs cells slots Q (F0 m (pc + 1) ls (.int x :: rest))) : W p l e R s m args below meth c H locs cells slots Q (F0 m pc ls (.int i :: .ref (G.1 a) :: rest)) := by
  obtain ⟨hx, hb, hml, hown, hts, -, -, hK, -, -⟩ := X
  obtain ⟨n, g, ha, hin, rfl⟩ := zA32_at hv
  have hk := zlt hI ha znR
  exact va_zald (n := n) (f := g) hx hb hK hI.1.2 a 2 (by rw [zW_get hk, ha]; rfl) rfl hin hdg kk
theorem z_lald (X : zX p s m args meth c own cc nL ret G A) (hI : zI G K s A H locs h) {a : Nat} {i : Int32} {x : Int64} (hv : zaJ h a i = some x) (hdg : decode cc pc = .ok (.laload, 1))
    (kk : W p l e R s m args below meth c H locs cells slots Q (F0 m (pc + 1) ls (.long x :: rest))) : W p l e R s m args below meth c H locs cells slots Q (F0 m pc ls (.int i :: .ref (G.1 a) :: rest)) := by
  obtain ⟨hx, hb, hml, hown, hts, -, -, hK, -, -⟩ := X
  obtain ⟨n, g, ha, hin, rfl⟩ := zaJ_at hv
  have hk := zlt hI ha znR
  exact va_lald (n := n) (f := g) hx hb hK hI.1.2 a 1 (by rw [zW_get hk, ha]; rfl) rfl hin hdg kk
theorem z_iast (X : zX p s m args meth c own cc nL ret G A) (hI : zI G K s A H locs h) {a : Nat} {i x : Int32} (hv : zsI h a i x = some h') (hdg : decode cc pc = .ok (.iastore, 1))
    (kk : ∀ (H1 : Heap) (locs1 : List Loc), zI G K s A H1 locs1 h' → W p l e R s m args below meth c H1 locs1 cells slots Q (F0 m (pc + 1) ls rest)) : W p l e R s m args below meth c H locs cells slots Q (F0 m pc ls (.int x :: .int i :: .ref (G.1 a) :: rest)) := by
  obtain ⟨hx, hb, hml, hown, hts, -, -, hK, -, -⟩ := X
  obtain ⟨n, g, ha, hin, rfl⟩ := zS32_at hv
  have hk := zlt hI ha znR
  refine va_iast (n := n) (f := g) hx hb hK hI.1.2 hI.2.1 hI.2.2 a 0 (by rw [zW_get hk, ha]; rfl) rfl hin hdg (fun H1 locs1 hP hD hS => ?_)
  exact kk H1 locs1 (zI_put hI hk rfl hP hS)
theorem z_zast (X : zX p s m args meth c own cc nL ret G A) (hI : zI G K s A H locs h) {a : Nat} {i x : Int32} (hv : zsZ h a i x = some h') (hdg : decode cc pc = .ok (.bastore, 1))
    (kk : ∀ (H1 : Heap) (locs1 : List Loc), zI G K s A H1 locs1 h' → W p l e R s m args below meth c H1 locs1 cells slots Q (F0 m (pc + 1) ls rest)) : W p l e R s m args below meth c H locs cells slots Q (F0 m pc ls (.int x :: .int i :: .ref (G.1 a) :: rest)) := by
  obtain ⟨hx, hb, hml, hown, hts, -, -, hK, -, -⟩ := X
  obtain ⟨n, g, ha, hin, rfl⟩ := zS32_at hv
  have hk := zlt hI ha znR
  refine va_zast (n := n) (f := g) hx hb hK hI.1.2 hI.2.1 hI.2.2 a 2 (by rw [zW_get hk, ha]; rfl) rfl hin hdg (fun H1 locs1 hP hD hS => ?_)
  exact kk H1 locs1 (zI_put hI hk rfl hP hS)
theorem z_last (X : zX p s m args meth c own cc nL ret G A) (hI : zI G K s A H locs h) {a : Nat} {i : Int32} {x : Int64} (hv : zsJ h a i x = some h') (hdg : decode cc pc = .ok (.lastore, 1))
    (kk : ∀ (H1 : Heap) (locs1 : List Loc), zI G K s A H1 locs1 h' → W p l e R s m args below meth c H1 locs1 cells slots Q (F0 m (pc + 1) ls rest)) : W p l e R s m args below meth c H locs cells slots Q (F0 m pc ls (.long x :: .int i :: .ref (G.1 a) :: rest)) := by
  obtain ⟨hx, hb, hml, hown, hts, -, -, hK, -, -⟩ := X
  obtain ⟨n, g, ha, hin, rfl⟩ := zsJ_at hv
  have hk := zlt hI ha znR
  refine va_last (n := n) (f := g) hx hb hK hI.1.2 hI.2.1 hI.2.2 a 1 (by rw [zW_get hk, ha]; rfl) rfl hin hdg (fun H1 locs1 hP hD hS => ?_)
  exact kk H1 locs1 (zI_put hI hk rfl hP hS)
theorem z_aald (X : zX p s m args meth c own cc nL ret G A) (hI : zI G K s A H locs h) (t : Nat) (ty : FieldType) (ht : (zty G)[t]? = some (G.2.1 t, ty)) (hr : ty.isReference = true) {a : Nat} {i : Int32} {x : Nat} (hv : zaR t h a i = some x) (hdg : decode cc pc = .ok (.aaload, 1))
    (kk : W p l e R s m args below meth c H locs cells slots Q (F0 m (pc + 1) ls (.ref (G.1 x) :: rest))) : W p l e R s m args below meth c H locs cells slots Q (F0 m pc ls (.int i :: .ref (G.1 a) :: rest)) := by
  obtain ⟨hx, hb, hml, hown, hts, -, -, hK, -, -⟩ := X
  obtain ⟨n, g, ha, hin, hg⟩ := zaR_at hv
  have hk := zlt hI ha znR
  have hlt : i.toNatClampNeg < n := Nat.not_le.mp fun q => hin (Or.inr q)
  have hat : va_at G.2.2.2 zCl (G.1 a, zT G (h a)) H := hI.1.2 a _ (zW_get hk)
  rw [ha] at hat
  refine W.aald (v := .ref (G.1 x)) (ty := ty) hx hb hat ((hK.2 t _ ht).1 n (fun j => va_rf ((g j).map G.1))) hr (fun q => by cases q) (by show ¬ (i < 0 ∨ (arrV _ _ _).slots.size ≤ _); rw [arrV_size]; exact hin) (by show (arrV _ _ _).slots[_]? = _; rw [arrV_read _ _ hlt]; show some (va_rf ((g i.toNatClampNeg).map G.1)) = _; rw [hg]; rfl) rfl rfl hdg kk
theorem z_alen (X : zX p s m args meth c own cc nL ret G A) (hI : zI G K s A H locs h) {a : Nat} {x : Int32} (hv : zlen h a = some x) (hdg : decode cc pc = .ok (.arraylength, 1))
    (kk : W p l e R s m args below meth c H locs cells slots Q (F0 m (pc + 1) ls (.int x :: rest))) : W p l e R s m args below meth c H locs cells slots Q (F0 m pc ls (.ref (G.1 a) :: rest)) := by
  obtain ⟨hx, hb, hml, hown, hts, -, -, hK, -, -⟩ := X
  obtain ⟨t, n, y, ht, ha, rfl⟩ := zlen_at hv
  have hk := zlt hI ha znR
  obtain ⟨ty, hty⟩ : ∃ ty, (zty G)[t]? = some (G.2.1 t, ty) := by
    rcases (show t = 0 ∨ t = 1 ∨ t = 2 ∨ t = 3 ∨ t = 4 ∨ t = 5 by omega) with rfl | rfl | rfl | rfl | rfl | rfl <;> exact ⟨_, rfl⟩
  rcases y with g | g | g
  · exact va_alen (x := (n, .inl g)) (v := Int32.ofNat n) hx hb hK hI.1.2 a t (by rw [zW_get hk, ha]; rfl) hty rfl hdg kk
  · exact va_alen (x := (n, .inr (.inl g))) (v := Int32.ofNat n) hx hb hK hI.1.2 a t (by rw [zW_get hk, ha]; rfl) hty rfl hdg kk
  · exact va_alen (x := (n, .inr (.inr (.inr (.inr (fun i => (g i).map G.1)))))) (v := Int32.ofNat n) hx hb hK hI.1.2 a t (by rw [zW_get hk, ha]; rfl) hty rfl hdg kk
theorem z_gets (X : zX p s m args meth c own cc nL ret G A) (hI : zI G K s A H locs h) {index : Nat} (i : Nat) (hi : i < 5) (hl : Cond.fieldLink own index (zsc i) (zsn i) "[I" ∈ zTb) (hdg : decode cc pc = .ok (.getstatic index, 3))
    (kk : W p l e R s m args below meth c H locs cells slots Q (F0 m (pc + 3) ls (.ref (G.2.2.1 i) :: rest))) : W p l e R s m args below meth c H locs cells slots Q (F0 m pc ls rest) := by
  obtain ⟨hx, hb, hml, hown, hts, -, -, hK, hST, -⟩ := X
  exact va_gets hx hb (hST i hi).1 hI.2.2 hown (hts _ hl) (fun _ h9 => h9) hdg kk
theorem z_getsN (X : zX p s m args meth c own cc nL ret G A) (hI : zI G K s A H locs h) {index : Nat} (i : Nat) (hi : i < 5) (hl : Cond.fieldLinkNest own index (zsc i) (zsn i) "[I" "AllHome" ∈ zNs) (hdg : decode cc pc = .ok (.getstatic index, 3))
    (kk : W p l e R s m args below meth c H locs cells slots Q (F0 m (pc + 3) ls (.ref (G.2.2.1 i) :: rest))) : W p l e R s m args below meth c H locs cells slots Q (F0 m pc ls rest) := by
  obtain ⟨hx, hb, hml, hown, hts, -, -, hK, hST, hNs⟩ := X
  exact va_getsN hx hb (hST i hi).1 hI.2.2 hown (va_Nw.use (zNs_on _ hl) (hNs _ hl)) (fun _ h9 => h9) hdg kk
theorem z_tab (X : zX p s m args meth c own cc nL ret G A) (hI : zI G K s A H locs h) (i : Nat) (hi : i < 5) {k x : Int32} (hv : ztab i k = some x) (hdg : decode cc pc = .ok (.iaload, 1))
    (kk : W p l e R s m args below meth c H locs cells slots Q (F0 m (pc + 1) ls (.int x :: rest))) : W p l e R s m args below meth c H locs cells slots Q (F0 m pc ls (.int k :: .ref (G.2.2.1 i) :: rest)) := by
  obtain ⟨hx, hb, hml, hown, hts, -, -, hK, hST, -⟩ := X
  unfold ztab at hv
  split at hv
  · cases hv
  · rename_i hin
    cases hv
    exact va_ti hx hb (hST i hi).2 hI.2.2 hin rfl hdg kk
theorem z_tlen (X : zX p s m args meth c own cc nL ret G A) (hI : zI G K s A H locs h) (i : Nat) (hi : i < 5) {x : Int32} (hv : Int32.ofNat (zsl i).length = x) (hdg : decode cc pc = .ok (.arraylength, 1))
    (kk : W p l e R s m args below meth c H locs cells slots Q (F0 m (pc + 1) ls (.int x :: rest))) : W p l e R s m args below meth c H locs cells slots Q (F0 m pc ls (.ref (G.2.2.1 i) :: rest)) := by
  obtain ⟨hx, hb, hml, hown, hts, -, -, hK, hST, -⟩ := X
  exact va_tlen hx hb (hST i hi).2 hI.2.2 hv hdg kk
theorem z_cpI (X : zX p s m args meth c own cc nL ret G A) (hI : zI G K s A H locs h) (hls : ls.size = nL) {index : Nat} (hl : Cond.methodLink own index arraycopyName ∈ zTb) (hnat : Cond.native arraycopyName ∈ zTb) (hst : Cond.static arraycopyName ∈ zTb) (hini : Cond.initialized "java/lang/System" ∈ zTb) {a b : Nat} {sp dp n : Int32} (hv : zcpI h a sp b dp n = some h') (hR : 1 ≤ R.frames ∧ (rest.map fun v => v.category).sum + (nativeFrameWords "java/lang/System" "arraycopy" 5 + 11) ≤ R.locals) (hdg : decode cc pc = .ok (.invokestatic index, 3))
    (kk : ∀ (H1 : Heap) (locs1 : List Loc), zI G K s A H1 locs1 h' → W p l e R s m args below meth c H1 locs1 cells slots Q (F0 m (pc + 3) ls rest)) : W p l e R s m args below meth c H locs cells slots Q (F0 m pc ls (.int n :: .int dp :: .ref (G.1 b) :: .int sp :: .ref (G.1 a) :: rest)) := by
  obtain ⟨hx, hb, hml, hown, hts, -, -, hK, -, -⟩ := X
  obtain ⟨n0, n1, f, g, ha, hbb, c1, c2, c3, c4, c5, rfl⟩ := zcpI_at hv
  have hka := zlt hI ha znR
  have hkb := zlt hI hbb znR
  refine va_copyi (f := f) (g := g) (n0 := n0) (n1 := n1) (ty := .int) hx hb (by rw [hml, hls]) hown (hts _ hl) (hts _ hnat) (hts _ hst) (hts _ hini) hK hI.1.2 hI.2.1 hI.2.2 a b 0 0 (by rw [zW_get hka, ha]; rfl) (by rw [zW_get hkb, hbb]; rfl) rfl rfl rfl c1 c2 c3 c4 c5 (fun i _ => rfl) hR.1 hR.2 hdg (fun H1 locs1 hP hD hS => ?_)
  exact kk H1 locs1 (zI_put hI hkb rfl hP hS)
theorem z_cpJ (X : zX p s m args meth c own cc nL ret G A) (hI : zI G K s A H locs h) (hls : ls.size = nL) {index : Nat} (hl : Cond.methodLink own index arraycopyName ∈ zTb) (hnat : Cond.native arraycopyName ∈ zTb) (hst : Cond.static arraycopyName ∈ zTb) (hini : Cond.initialized "java/lang/System" ∈ zTb) {a b : Nat} {sp dp n : Int32} (hv : zcpJ h a sp b dp n = some h') (hR : 1 ≤ R.frames ∧ (rest.map fun v => v.category).sum + (nativeFrameWords "java/lang/System" "arraycopy" 5 + 11) ≤ R.locals) (hdg : decode cc pc = .ok (.invokestatic index, 3))
    (kk : ∀ (H1 : Heap) (locs1 : List Loc), zI G K s A H1 locs1 h' → W p l e R s m args below meth c H1 locs1 cells slots Q (F0 m (pc + 3) ls rest)) : W p l e R s m args below meth c H locs cells slots Q (F0 m pc ls (.int n :: .int dp :: .ref (G.1 b) :: .int sp :: .ref (G.1 a) :: rest)) := by
  obtain ⟨hx, hb, hml, hown, hts, -, -, hK, -, -⟩ := X
  obtain ⟨n0, n1, f, g, ha, hbb, c1, c2, c3, c4, c5, rfl⟩ := zcpJ_at hv
  have hka := zlt hI ha znR
  have hkb := zlt hI hbb znR
  refine va_copyl (f := f) (g := g) (n0 := n0) (n1 := n1) (ty := .long) hx hb (by rw [hml, hls]) hown (hts _ hl) (hts _ hnat) (hts _ hst) (hts _ hini) hK hI.1.2 hI.2.1 hI.2.2 a b 1 1 (by rw [zW_get hka, ha]; rfl) (by rw [zW_get hkb, hbb]; rfl) rfl rfl rfl c1 c2 c3 c4 c5 (fun i _ => rfl) hR.1 hR.2 hdg (fun H1 locs1 hP hD hS => ?_)
  exact kk H1 locs1 (zI_put hI hkb rfl hP hS)
-- ends
theorem z_iret (X : zX p s m args meth c own cc nL (some .int) G (zA G K)) (hI : zI G K s (zA G K) H locs h) {x : Int32} (hdg : decode cc pc = .ok (.ireturn, 1)) : W p l e R s m args below meth c H locs cells slots (MQ below (zQi G K x h) args s cells slots (zA G K)) (F0 m pc ls [.int x]) := by
  obtain ⟨hx, hb, hml, hown, hts, hr, hlocks, hK, hST, -⟩ := X
  exact W.iret (v := x) hx hb hr (fun t ht hW => ⟨⟨x, (), rfl, rfl, by show zP G K h t.heap; rw [ht]; exact hI.1⟩, hI.2.2.F ht⟩) hI.2.2.2.2 hdg hlocks
theorem z_zret (X : zX p s m args meth c own cc nL (some .boolean) G (zA G K)) (hI : zI G K s (zA G K) H locs h) {x : Int32} (hx01 : x = 0 ∨ x = 1) (hdg : decode cc pc = .ok (.ireturn, 1)) : W p l e R s m args below meth c H locs cells slots (MQ below (zQi G K x h) args s cells slots (zA G K)) (F0 m pc ls [.int x]) := by
  obtain ⟨hx, hb, hml, hown, hts, hr, hlocks, hK, hST, -⟩ := X
  exact W.zret (v := x) hx hb hr (by rcases hx01 with rfl | rfl <;> rfl) (fun t ht hW => ⟨⟨x, (), rfl, rfl, by show zP G K h t.heap; rw [ht]; exact hI.1⟩, hI.2.2.F ht⟩) hI.2.2.2.2 hdg hlocks
theorem z_lret (X : zX p s m args meth c own cc nL (some .long) G (zA G K)) (hI : zI G K s (zA G K) H locs h) {x : Int64} (hdg : decode cc pc = .ok (.lreturn, 1)) : W p l e R s m args below meth c H locs cells slots (MQ below (zQl G K x h) args s cells slots (zA G K)) (F0 m pc ls [.long x]) := by
  obtain ⟨hx, hb, hml, hown, hts, hr, hlocks, hK, hST, -⟩ := X
  exact W.lret (v := x) hx hb hr (fun t ht hW => ⟨⟨x, (), rfl, rfl, by show zP G K h t.heap; rw [ht]; exact hI.1⟩, hI.2.2.F ht⟩) hI.2.2.2.2 hdg hlocks
theorem z_vret (X : zX p s m args meth c own cc nL none G (zA G K)) (hI : zI G K s (zA G K) H locs h) (hdg : decode cc pc = .ok (.return_, 1)) : W p l e R s m args below meth c H locs cells slots (MQ below (zQv G K h) args s cells slots (zA G K)) (F0 m pc ls []) := by
  obtain ⟨hx, hb, hml, hown, hts, hr, hlocks, hK, hST, -⟩ := X
  exact W.vret hx hb hr (fun t ht hW => ⟨⟨(), rfl, trivial, by show zP G K h t.heap; rw [ht]; exact hI.1⟩, hI.2.2.F ht⟩) hI.2.2.2.2 hdg hlocks
end ZR
