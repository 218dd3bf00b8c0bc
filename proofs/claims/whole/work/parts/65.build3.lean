/-! BUILDING THE WORLD: its cells one behind another from the address S0 on -/
abbrev bA (S0 : Nat) : Nat → Prop := fun q => S0 ≤ q
def bG1 (G : zG) (S0 : Nat) : Prop := ∀ k, G.1 k = S0 + k
theorem bD {G : zG} {S0 : Nat} (hG : bG1 G S0) (K : Nat) (h : zH) : va_D (bA S0) (zW G K h) := by
  refine ⟨fun i j x y hi hj hxy => ?_, fun k q hk => ?_⟩
  · obtain ⟨li, rfl⟩ := zW_key hi
    obtain ⟨lj, rfl⟩ := zW_key hj
    have hxy : G.1 i = G.1 j := hxy
    rw [hG, hG] at hxy
    omega
  · obtain ⟨lk, rfl⟩ := zW_key hk
    show S0 ≤ G.1 k
    rw [hG]
    omega
/-- rows of rows in the model heap -/
def zmul (h : zH) (K N M : Nat) : zH := fun k => if k = K then zRf 5 N (fun j => if j < N then some (K + 1 + j) else none) else if K < k ∧ k ≤ K + N then zI32 M (fun _ => 0) else h k
def bz (s : State) (S0 K cells : Nat) : Prop := s.heap.size + cells = S0 + K ∧ cells ≤ K
section BR2
variable {p : Program} {l : Launch} {e : Env} {R : Room} {s : State} {m : MethodId} {args : Array Value} {below : List Frame} {meth : Method} {c : Code} {H : Heap} {locs : List Loc} {cells slots : Nat} {Q : State → Prop}
variable {cc : ByteArray} {pc : Nat} {ls : Array Slot} {rest : List Value} {own : String} {nL : Nat} {ret : Option FieldType} {G : zG} {K S0 : Nat} {h h' : zH}
/-- how big the heap is -/
theorem b_size (hI : zI G K s (bA S0) H locs h) (hG : bG1 G S0) (hz : bz s S0 K cells) {g : JFrame} (kk : H.size = S0 + K → W p l e R s m args below meth c H locs cells slots Q g) : W p l e R s m args below meth c H locs cells slots Q g := by
  intro T hT X
  obtain ⟨hz, hz2⟩ := hz
  refine kk ?_ T hT X
  have up : T.heap.size ≤ s.heap.size + cells := X.same.2.2.1
  rw [hT] at up
  have lo : S0 + K ≤ H.size := by
    rcases Nat.eq_zero_or_pos K with q | q
    · have := hI.2.2.1
      omega
    · have := (hI.1.2 (K - 1) _ (zW_get (show K - 1 < K by omega))).lt
      have this : G.1 (K - 1) < H.size := this
      rw [hG] at this
      omega
  omega
theorem b_grow (hI : zI G K s (bA S0) H locs h) (hG : bG1 G S0) (hz : H.size = S0 + K) {H1 : Heap} {locs1 : List Loc} (z1 : H.size ≤ H1.size) (o1 : ∀ q, q < H.size → H1[q]? = H[q]?) (hl1 : ∀ x ∈ locs1, x ∈ locs ∨ S0 ≤ x.base) {h1 : zH} {K1 : Nat} (hK1 : K ≤ K1) (hn : ∀ k, K1 ≤ k → h1 k = zNil) (ho : ∀ k, k < K → h1 k = h k) (hat : ∀ k, K ≤ k → k < K1 → va_at G.2.2.2 zCl (G.1 k, zT G (h1 k)) H1) : zI G K1 s (bA S0) H1 locs1 h1 := by
  refine ⟨⟨hn, fun k q hk => ?_⟩, bD hG K1 h1, ⟨Nat.le_trans hI.2.2.1 z1, fun q a b => (o1 q (Nat.lt_of_lt_of_le a hI.2.2.1)).trans (hI.2.2.2.1 q a b), fun x hx => (hl1 x hx).elim (hI.2.2.2.2 x) id⟩⟩
  obtain ⟨lk, rfl⟩ := zW_key hk
  rcases Nat.lt_or_ge k K with q | q
  · rw [ho k q]
    refine (hI.1.2 k _ (zW_get q)).kept (o1 _ ?_)
    show G.1 k < H.size
    rw [hG, hz]
    omega
  · exact hat k q lk
theorem b_push (hI : zI G K s (bA S0) H locs h) (hG : bG1 G S0) (hz : H.size = S0 + K) {H1 : Heap} (z1 : H.size ≤ H1.size) (o1 : ∀ q, q < H.size → H1[q]? = H[q]?) {z : zE} (hat : va_at G.2.2.2 zCl (H.size, zT G z) H1) : zI G (K + 1) s (bA S0) H1 locs (zup h K z) := by
  refine b_grow hI hG hz z1 o1 (fun x hx => Or.inl hx) (by omega) (fun k hk => ?_) (fun k hk => zup_ne (by omega)) (fun k a b => ?_)
  · rw [zup_ne (by omega)]; exact hI.1.1 k (by omega)
  · obtain rfl : k = K := by omega
    rw [zup_eq, hG, ← hz]
    exact hat
def zZ0 : Nat → Int32 := fun _ => 0
def zJ0 : Nat → Int64 := fun _ => 0
theorem b_newI (X : zX p s m args meth c own cc nL ret G (bA S0)) (hI : zI G K s (bA S0) H locs h) (hG : bG1 G S0) (hz : bz s S0 K cells) (hw : Cond.arrayClass .int ∈ zTb) {N : Nat} (hN : N < 100000) (hcells : cells + 1 ≤ R.cells) (hslots : slots + N ≤ R.slots) (hdg : decode cc pc = .ok (.newarray .int, 2))
    (kk : ∀ H1 : Heap, zI G (K + 1) s (bA S0) H1 locs (zup h K (zI32 N zZ0)) → W p l e R s m args below meth c H1 locs (cells + 1) (slots + N) Q (F0 m (pc + 2) ls (.ref (G.1 K) :: rest))) : W p l e R s m args below meth c H locs cells slots Q (F0 m pc ls (.int (nI N) :: rest)) := by
  refine b_size hI hG hz fun hs => ?_
  obtain ⟨hx, hb, hml, hown, hts, -, -, hK, -, -⟩ := X
  refine va_newaK (atype := .int) hx hb (hts _ hw) rfl hdg rfl (nI_pos (by omega)) (nI_clamp (by omega)) (by show N * 4 ≤ _; omega) hcells hslots rfl fun H1 cA e1 z1 o1 hAr hNm => ?_
  have ec : cA = G.2.1 0 := Option.some.inj (hNm.symm.trans (hK.2 0 _ rfl).2)
  have := kk H1 (b_push (z := zI32 N zZ0) hI hG hs (by omega) o1 (by
    show H1[H.size]? = some (vp_cell _ _)
    rw [e1, ec]
    rfl))
  rw [hG, ← hs] at this
  exact this
theorem b_newJ (X : zX p s m args meth c own cc nL ret G (bA S0)) (hI : zI G K s (bA S0) H locs h) (hG : bG1 G S0) (hz : bz s S0 K cells) (hw : Cond.arrayClass .long ∈ zTb) {N : Nat} (hN : N < 100000) (hcells : cells + 1 ≤ R.cells) (hslots : slots + N ≤ R.slots) (hdg : decode cc pc = .ok (.newarray .long, 2))
    (kk : ∀ H1 : Heap, zI G (K + 1) s (bA S0) H1 locs (zup h K (zI64 N zJ0)) → W p l e R s m args below meth c H1 locs (cells + 1) (slots + N) Q (F0 m (pc + 2) ls (.ref (G.1 K) :: rest))) : W p l e R s m args below meth c H locs cells slots Q (F0 m pc ls (.int (nI N) :: rest)) := by
  refine b_size hI hG hz fun hs => ?_
  obtain ⟨hx, hb, hml, hown, hts, -, -, hK, -, -⟩ := X
  refine va_newaK (atype := .long) hx hb (hts _ hw) rfl hdg rfl (nI_pos (by omega)) (nI_clamp (by omega)) (by show N * 8 ≤ _; omega) hcells hslots rfl fun H1 cA e1 z1 o1 hAr hNm => ?_
  have ec : cA = G.2.1 1 := Option.some.inj (hNm.symm.trans (hK.2 1 _ rfl).2)
  have := kk H1 (b_push (z := zI64 N zJ0) hI hG hs (by omega) o1 (by
    show H1[H.size]? = some (vp_cell _ _)
    rw [e1, ec]
    rfl))
  rw [hG, ← hs] at this
  exact this
theorem b_newZ (X : zX p s m args meth c own cc nL ret G (bA S0)) (hI : zI G K s (bA S0) H locs h) (hG : bG1 G S0) (hz : bz s S0 K cells) (hw : Cond.arrayClass .boolean ∈ zTb) {N : Nat} (hN : N < 100000) (hcells : cells + 1 ≤ R.cells) (hslots : slots + N ≤ R.slots) (hdg : decode cc pc = .ok (.newarray .boolean, 2))
    (kk : ∀ H1 : Heap, zI G (K + 1) s (bA S0) H1 locs (zup h K (zI1 N zZ0)) → W p l e R s m args below meth c H1 locs (cells + 1) (slots + N) Q (F0 m (pc + 2) ls (.ref (G.1 K) :: rest))) : W p l e R s m args below meth c H locs cells slots Q (F0 m pc ls (.int (nI N) :: rest)) := by
  refine b_size hI hG hz fun hs => ?_
  obtain ⟨hx, hb, hml, hown, hts, -, -, hK, -, -⟩ := X
  refine va_newaK (atype := .boolean) hx hb (hts _ hw) rfl hdg rfl (nI_pos (by omega)) (nI_clamp (by omega)) (by show N * 1 ≤ _; omega) hcells hslots rfl fun H1 cA e1 z1 o1 hAr hNm => ?_
  have ec : cA = G.2.1 2 := Option.some.inj (hNm.symm.trans (hK.2 2 _ rfl).2)
  have := kk H1 (b_push (z := zI1 N zZ0) hI hG hs (by omega) o1 (by
    show H1[H.size]? = some (vp_cell _ _)
    rw [e1, ec]
    rfl))
  rw [hG, ← hs] at this
  exact this
/-- rows of references: at first of none -/
theorem b_newq {C : String} {t : Nat} (X : zX p s m args meth c own cc nL ret G (bA S0)) (hI : zI G K s (bA S0) H locs h) (hG : bG1 G S0) (hz : bz s S0 K cells) {index : Nat} (hcl : Cond.classLink own index C ∈ zTb) (hov : va_AO C s) (ht : (zty G)[t]? = some (G.2.1 t, .object C)) {N : Nat} (hN : N < 100000) (hcells : cells + 1 ≤ R.cells) (hslots : slots + N ≤ R.slots) (hdg : decode cc pc = .ok (.anewarray index, 3))
    (kk : ∀ H1 : Heap, zI G (K + 1) s (bA S0) H1 locs (zup h K (zRf t N (fun _ => none))) → W p l e R s m args below meth c H1 locs (cells + 1) (slots + N) Q (F0 m (pc + 3) ls (.ref (G.1 K) :: rest))) : W p l e R s m args below meth c H locs cells slots Q (F0 m pc ls (.int (nI N) :: rest)) := by
  refine b_size hI hG hz fun hs => ?_
  obtain ⟨hx, hb, hml, hown, hts, -, -, hK, -, -⟩ := X
  have eN : (nI N).toNatClampNeg = N := nI_clamp (by omega)
  refine W.anew hx hb hown (hts _ hcl) (va_AO.use hov) rfl hdg rfl (nI_pos (by omega)) (by rw [eN]; omega) hcells (by rw [eN]; exact hslots) fun cA kA comp f1 f2 f3 f4 => ?_
  obtain ⟨-, kA', comp', -, -, -, f5⟩ := hK.2 t _ ht
  have ec : cA = G.2.1 t := Option.some.inj (f1.symm.trans f5)
  rw [eN]
  have := kk _ (b_push (z := zRf t N (fun _ => none)) (H1 := H.push ({ cls := cA, slots := Array.replicate N .null, vm := .none } : Cell)) hI hG hs (by simp) (fun q hq => by rw [Array.getElem?_push, if_neg (Nat.ne_of_lt hq)]) (by
    show (H.push _)[H.size]? = some (vp_cell _ _)
    rw [Array.getElem?_push_size, ec, arrV_new]
    rfl))
  rw [hG, ← hs] at this
  exact this
theorem b_newO (X : zX p s m args meth c own cc nL ret G (bA S0)) (hI : zI G K s (bA S0) H locs h) (hG : bG1 G S0) (hz : bz s S0 K cells) {index ci N : Nat} {C : String} {T : u_T} (hc : zCl[ci]? = some (C, T, N)) (hin : ∀ w ∈ u_ws C T N, w ∈ zTb) (ty : Nat → FieldType) (hty : ∀ k, k < N → parseFieldDescriptor (T k).2.2.1 = some (ty k)) (hcl : Cond.classLink own index C ∈ zTb) (hins : Cond.instantiable C N ∈ zTb) (hini : Cond.initialized C ∈ zTb) {fs : List Value} (hfs : ∀ j, j < N → defaultValue (ty j) = vp_V fs j) (hfz : fs.map (zV G.1) = fs) (hcells : cells + 1 ≤ R.cells) (hslots : slots + N ≤ R.slots) (hdg : decode cc pc = .ok (.new index, 3))
    (kk : ∀ H1 : Heap, zI G (K + 1) s (bA S0) H1 locs (zup h K (.inl (ci, fs))) → W p l e R s m args below meth c H1 locs (cells + 1) (slots + N) Q (F0 m (pc + 3) ls (.ref (G.1 K) :: rest))) : W p l e R s m args below meth c H locs cells slots Q (F0 m pc ls rest) := by
  refine b_size hI hG hz fun hs => ?_
  obtain ⟨hx, hb, hml, hown, hts, -, -, hK, -, -⟩ := X
  have hKn := hK.1 ci _ hc
  refine W.newcK hx hb hown (hts _ hcl) (hts _ hins) (hts _ hini) rfl hdg hcells hslots hKn.2.1 rfl fun H1 kC hkC e1 z1 o1 => ?_
  have := kk H1 (b_push (z := .inl (ci, fs)) hI hG hs (by omega) o1 (by
    show va_at _ _ (H.size, .inr (ci, fs.map (zV G.1))) H1
    rw [hfz]
    exact ⟨_, hc, (u_born ty hts hin hKn hkC e1 hty).to hfs⟩))
  rw [hG, ← hs] at this
  exact this
theorem b_mul (X : zX p s m args meth c own cc nL ret G (bA S0)) (hI : zI G K s (bA S0) H locs h) (hG : bG1 G S0) (hz : bz s S0 K cells) {index : Nat} (hcl : Cond.classLink own index "[[I" ∈ zTb) (hov : bAO s) (hw : Cond.arrayClass .int ∈ zTb) {N M : Nat} (hN : N < 100000) (hM : M < 100000) (hcells : cells + (1 + N) ≤ R.cells) (hslots : slots + (N + N * M) ≤ R.slots) (hdg : decode cc pc = .ok (.multianewarray index 2, 4))
    (kk : ∀ (H1 : Heap) (locs1 : List Loc), zI G (K + 1 + N) s (bA S0) H1 locs1 (zmul h K N M) → W p l e R s m args below meth c H1 locs1 (cells + 1 + N) (slots + N + N * M) Q (F0 m (pc + 4) ls (.ref (G.1 K) :: rest))) : W p l e R s m args below meth c H locs cells slots Q (F0 m pc ls (.int (nI M) :: .int (nI N) :: rest)) := by
  refine b_size hI hG hz fun hs => ?_
  obtain ⟨hx, hb, hml, hown, hts, -, -, hK, -, -⟩ := X
  refine b_multi hx hb hown (hts _ hcl) hov (hts _ hw) hdg (nI_clamp (by omega)) (nI_clamp (by omega)) (nI_pos (by omega)) (nI_pos (by omega)) (by omega) (by omega) hcells hslots fun cA comp H1 locs1 f1 f2 z1 e1 e2 o1 hl => ?_
  have ec : cA = G.2.1 5 := Option.some.inj (f1.symm.trans (hK.2 5 _ rfl).2)
  have ei : comp = G.2.1 0 := Option.some.inj (f2.symm.trans (hK.2 0 _ rfl).2)
  have := kk H1 locs1 (b_grow hI hG hs (by omega) o1 (fun x hx => (hl x hx).imp_right fun w => by rw [w, hs]; omega) (by omega) (fun k hk => ?_) (fun k hk => ?_) (fun k a b => ?_))
  · rw [hG, ← hs] at this
    exact this
  · unfold zmul
    rw [if_neg (by omega), if_neg (by omega)]
    exact hI.1.1 k (by omega)
  · unfold zmul
    rw [if_neg (by omega), if_neg (by omega)]
  · unfold zmul
    by_cases q : k = K
    · subst q
      rw [if_pos rfl, hG, ← hs]
      show H1[H.size]? = some (vp_cell _ _)
      rw [e1, ec]
      refine Eq.trans ?_ (congrArg some (vp_cell_q (G.2.1 5) N _).symm)
      unfold bC
      refine congrArg (fun z => some (arrV (G.2.1 5) N z)) (funext fun j => ?_)
      by_cases w : j < N
      · rw [if_pos w]
        show _ = va_rf (Option.map G.1 (if j < N then some (k + 1 + j) else none))
        rw [if_pos w]
        show Value.ref (H.size + 1 + j) = .ref (G.1 (k + 1 + j))
        rw [hG, hs]
        exact congrArg Value.ref (show (S0 + k + 1 + j : Nat) = S0 + (k + 1 + j) by omega)
      · rw [if_neg w]
        show _ = va_rf (Option.map G.1 (if j < N then some (k + 1 + j) else none))
        rw [if_neg w]
        rfl
    · rw [if_neg q, if_pos (by omega)]
      show H1[G.1 k]? = some (vp_cell _ _)
      rw [hG, show S0 + k = H.size + 1 + (k - K - 1) by omega, e2 _ (by omega), ei]
      rfl
end BR2
