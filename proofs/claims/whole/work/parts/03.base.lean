/-! OUR OWN WORLD: every cell of the two systems has a number (its role); a model heap says what each role holds; references in it are roles. -/
abbrev zE : Type := (Nat × List Value) ⊕ (Nat × Nat × ((Nat → Int32) ⊕ (Nat → Int64) ⊕ (Nat → Option Nat)))
abbrev zH : Type := Nat → zE
/-- addresses of the roles, array classes, addresses of the static tables, what the kit asks of the classes -/
abbrev zG : Type := (Nat → Nat) × (Nat → ClassId) × (Nat → Nat) × va_G
def zNil : zE := .inl (99, [])
def zup (h : zH) (k : Nat) (e : zE) : zH := fun j => if j = k then e else h j
theorem zup_eq (h : zH) (k : Nat) (e : zE) : zup h k e k = e := if_pos rfl
theorem zup_ne {h : zH} {k j : Nat} {e : zE} (q : j ≠ k) : zup h k e j = h j := if_neg q
def zV (ad : Nat → Nat) : Value → Value := fun v => match v with
  | .ref k => .ref (ad k)
  | w => w
def zT (G : zG) : zE → va_E := fun e => match e with
  | .inl o => .inr (o.1, o.2.map (zV G.1))
  | .inr (t, n, .inl g) => .inl (G.2.1 t, n, .inl g)
  | .inr (t, n, .inr (.inl g)) => .inl (G.2.1 t, n, .inr (.inl g))
  | .inr (t, n, .inr (.inr g)) => .inl (G.2.1 t, n, .inr (.inr (.inr (.inr (fun i => (g i).map G.1)))))
def zW (G : zG) (K : Nat) (h : zH) : va_W := (List.range K).map fun k => (G.1 k, zT G (h k))
theorem zW_get {G : zG} {K : Nat} {h : zH} {k : Nat} (hk : k < K) : (zW G K h)[k]? = some (G.1 k, zT G (h k)) := by simp [zW, hk]
theorem zW_set {G : zG} {K : Nat} {h : zH} {k : Nat} {e : zE} {x : Nat × va_E} (hx : x = (G.1 k, zT G e)) : (zW G K h).set k x = zW G K (zup h k e) := by
  subst hx
  apply List.ext_getElem?
  intro j
  by_cases hj : j < K
  · rw [zW_get hj]
    by_cases e1 : j = k
    · subst e1
      rw [List.getElem?_set_self (by simp [zW]; exact hj), zup_eq]
    · rw [List.getElem?_set_ne (Ne.symm e1), zW_get hj, zup_ne e1]
  · rw [List.getElem?_eq_none (by simp [zW]; omega), List.getElem?_eq_none (by simp [zW]; omega)]
theorem zW_key {G : zG} {K : Nat} {h : zH} {k : Nat} {q : Nat × va_E} (hk : (zW G K h)[k]? = some q) : k < K ∧ q = (G.1 k, zT G (h k)) := by
  have hl : k < K := by
    have := (List.getElem?_eq_some_iff.mp hk).1
    simpa [zW] using this
  rw [zW_get hl] at hk
  exact ⟨hl, (Option.some.inj hk).symm⟩
theorem zD_any {A : Nat → Prop} {G : zG} {K : Nat} {h : zH} (h' : zH) (hD : va_D A (zW G K h)) : va_D A (zW G K h') := by
  refine ⟨fun i j x y hi hj hxy => ?_, fun k q hk => ?_⟩
  · obtain ⟨li, rfl⟩ := zW_key hi
    obtain ⟨lj, rfl⟩ := zW_key hj
    exact hD.1 i j _ _ (zW_get li) (zW_get lj) hxy
  · obtain ⟨lk, rfl⟩ := zW_key hk
    exact hD.2 k (G.1 k, zT G (h k)) (zW_get lk)
/-- the cells that a method of the finished systems may change -/
def zA (G : zG) (K : Nat) : Nat → Prop := fun q => ∃ k, k < K ∧ q = G.1 k
theorem zD_self {A : Nat → Prop} {G : zG} {K : Nat} {h : zH} (hD : va_D A (zW G K h)) : va_D (zA G K) (zW G K h) := by
  refine hD.weaken fun k q hk _ => ?_
  obtain ⟨lk, rfl⟩ := zW_key hk
  exact ⟨k, lk, rfl⟩
theorem zA_in {A : Nat → Prop} {G : zG} {K : Nat} {h : zH} (hD : va_D A (zW G K h)) : ∀ q, zA G K q → A q := by
  rintro q ⟨k, hk, rfl⟩
  exact hD.2 k _ (zW_get hk)
abbrev zty (G : zG) : List (ClassId × FieldType) := [(G.2.1 0, .int), (G.2.1 1, .long), (G.2.1 2, .boolean), (G.2.1 3, .object "AllHome$Run"), (G.2.1 4, .object "AllHome$Shelf"), (G.2.1 5, .array .int)]
-- the static tables
def zsn : Nat → String := fun i => match i with
  | 0 => "ABOVE"
  | 1 => "FAMILY"
  | 2 => "HUT_CELLS"
  | 3 => "HUT_FAMILY"
  | _ => "BODIES"
def zsc : Nat → String := fun i => match i with
  | 4 => "AllHome$Acts"
  | _ => "AllHome"
def zsl : Nat → List Int32 := fun i => match i with
  | 0 => [-1, 0, 0, 0, 3, 3, 2, 4, 5]
  | 1 => [0, 1, 2, 3, 4, 5, 2, 4, 5]
  | 2 => [0, 6, 12, 68, 75, 81, 87, 93, 99, 105, 111]
  | 3 => [-1, -1, -1, 1, 2, 2, 2, 4, 4, 5, 5]
  | _ => [1, 10, 11, 2, 20, 0, 0, 0, 0, 0, 30, 0, 0, 40, 0, 0, 50, 0, 0, 0, 0, 0, 61, 60, 0, 0, 70, 0, 0, 80, 0, 0, 0, 0, 0, 90]
def zST (G : zG) (A : Nat → Prop) (U : State) : Prop := ∀ i, i < 5 → va_Z (zsc i) (zsn i) "[I" (.ref (G.2.2.1 i)) A U U.heap ∧ va_T .int (G.2.2.1 i) (zsl i).length (fun j => .int ((zsl i).getD j 0)) A U U.heap
theorem zST.go {G : zG} {A B : Nat → Prop} {s U : State} {H : Heap} {locs : List Loc} (h : zST G A s) (hS : va_S A s.heap H locs) (hU : U.heap = H) (hvm : s.vm.Alike U.vm) (hBA : ∀ q, B q → A q) : zST G B U := by
  intro i hi
  obtain ⟨h1, h2⟩ := h i hi
  have hk : ∀ a : Nat, a < s.heap.size → ¬ A a → U.heap[a]? = s.heap[a]? := fun a h1 h2 => by rw [hU]; exact hS.2.1 a h1 h2
  exact ⟨((h1.moved hvm).kept hk).narrow hBA, ((h2.moved hvm).kept hk).narrow hBA⟩
/-- the heap holds the model heap -/
def zP (G : zG) (K : Nat) (h : zH) (H : Heap) : Prop := (∀ k, K ≤ k → h k = zNil) ∧ va_P G.2.2.2 zCl (zW G K h) H
/-- where a walk stands -/
def zI (G : zG) (K : Nat) (s : State) (A : Nat → Prop) (H : Heap) (locs : List Loc) (h : zH) : Prop := zP G K h H ∧ va_D A (zW G K h) ∧ va_S A s.heap H locs
/-- what a walk keeps -/
def zX (p : Program) (s : State) (m : MethodId) (args : Array Value) (meth : Method) (c : Code) (own : String) (cc : ByteArray) (nL : Nat) (ret : Option FieldType) (G : zG) (A : Nat → Prop) : Prop :=
  p.tables.exec = Jvm.exec ∧ c.code = cc ∧ c.maxLocals = nL ∧ s.vm.findClass own = some m.cls ∧ (∀ w ∈ zTb, w.before args s = true) ∧ meth.sig.returnType = ret ∧ meth.locks = false ∧ va_K G.2.2.2 zCl (zty G) s ∧ zST G A s ∧ ∀ w ∈ zNs, va_Nw w s
/-- a method's start and end -/
def zU (G : zG) (K : Nat) (h : zH) (U : State) : Prop := zP G K h U.heap ∧ va_D (zA G K) (zW G K h) ∧ va_K G.2.2.2 zCl (zty G) U ∧ zST G (zA G K) U ∧ ∀ w ∈ zNs, va_Nw w U
abbrev zPc (G : zG) (K : Nat) (h : zH) (av : List Value) : Array Value → State → Prop := va_Pc av (zU G K h)
abbrev zQi (G : zG) (K : Nat) (r : Int32) (h : zH) : Array Value → State → Outcome → State → Prop := va_Qi (S := Unit) (fun r' _ => r' = r) (fun _ t => zP G K h t.heap) (zA G K)
abbrev zQl (G : zG) (K : Nat) (r : Int64) (h : zH) : Array Value → State → Outcome → State → Prop := va_Ql (S := Unit) (fun r' _ => r' = r) (fun _ t => zP G K h t.heap) (zA G K)
abbrev zQv (G : zG) (K : Nat) (h : zH) : Array Value → State → Outcome → State → Prop := va_Qv (S := Unit) (fun _ => True) (fun _ t => zP G K h t.heap) (zA G K)
abbrev zR (n : Nat) : Room := { frames := n, cells := 0, slots := 0, locals := 60 * n }
abbrev zws (y : MethodName) (b : ByteArray) (n : Nat) (ret : Option FieldType) : List Cond := .code y b n ret :: zTb
abbrev zMi (l : Launch) (G : zG) (K : Nat) (y : MethodName) (b : ByteArray) (n d : Nat) (av : List Value) (h : zH) (r : Int32) (h' : zH) : Prop := Met l y (zws y b n (some .int)) (zR d) (zPc G K h av) (zQi G K r h') 0 0 (zA G K)
abbrev zMz (l : Launch) (G : zG) (K : Nat) (y : MethodName) (b : ByteArray) (n d : Nat) (av : List Value) (h : zH) (r : Int32) (h' : zH) : Prop := Met l y (zws y b n (some .boolean)) (zR d) (zPc G K h av) (zQi G K r h') 0 0 (zA G K)
abbrev zMl (l : Launch) (G : zG) (K : Nat) (y : MethodName) (b : ByteArray) (n d : Nat) (av : List Value) (h : zH) (r : Int64) (h' : zH) : Prop := Met l y (zws y b n (some .long)) (zR d) (zPc G K h av) (zQl G K r h') 0 0 (zA G K)
abbrev zMv (l : Launch) (G : zG) (K : Nat) (y : MethodName) (b : ByteArray) (n d : Nat) (av : List Value) (h : zH) (h' : zH) : Prop := Met l y (zws y b n none) (zR d) (zPc G K h av) (zQv G K h') 0 0 (zA G K)
-- what the walks read and write of the model heap
def zcls (h : zH) (a : Nat) : Nat := match h a with
  | .inl o => o.1
  | _ => 98
def zrI (h : zH) (a c j : Nat) : Option Int32 := match h a with
  | .inl o => if o.1 = c then (match o.2[j]? with | some (.int x) => some x | _ => none) else none
  | _ => none
def zrR (h : zH) (a c j : Nat) : Option Nat := match h a with
  | .inl o => if o.1 = c then (match o.2[j]? with | some (.ref x) => some x | _ => none) else none
  | _ => none
def zwV (h : zH) (a c j : Nat) (v : Value) : Option zH := match h a with
  | .inl o => if o.1 = c ∧ j < o.2.length then some (zup h a (.inl (c, o.2.set j v))) else none
  | _ => none
def zwI (h : zH) (a c j : Nat) (x : Int32) : Option zH := zwV h a c j (.int x)
def zwZ (h : zH) (a c j : Nat) (x : Int32) : Option zH := if x = 0 ∨ x = 1 then zwV h a c j (.int x) else none
def zwR (h : zH) (a c j : Nat) (x : Nat) : Option zH := zwV h a c j (.ref x)
def zout (i : Int32) (n : Nat) : Prop := i < 0 ∨ n ≤ i.toNatClampNeg
def zA32 (t : Nat) (h : zH) (a : Nat) (i : Int32) : Option Int32 := match h a with
  | .inr (t', n, .inl g) => if t' = t then (if i < 0 ∨ n ≤ i.toNatClampNeg then none else some (g i.toNatClampNeg)) else none
  | _ => none
abbrev zaI (h : zH) (a : Nat) (i : Int32) : Option Int32 := zA32 0 h a i
abbrev zaZ (h : zH) (a : Nat) (i : Int32) : Option Int32 := zA32 2 h a i
def zaJ (h : zH) (a : Nat) (i : Int32) : Option Int64 := match h a with
  | .inr (t', n, .inr (.inl g)) => if t' = 1 then (if i < 0 ∨ n ≤ i.toNatClampNeg then none else some (g i.toNatClampNeg)) else none
  | _ => none
def zaR (t : Nat) (h : zH) (a : Nat) (i : Int32) : Option Nat := match h a with
  | .inr (t', n, .inr (.inr g)) => if t' = t then (if i < 0 ∨ n ≤ i.toNatClampNeg then none else g i.toNatClampNeg) else none
  | _ => none
def zS32 (t : Nat) (h : zH) (a : Nat) (i x : Int32) : Option zH := match h a with
  | .inr (t', n, .inl g) => if t' = t then (if i < 0 ∨ n ≤ i.toNatClampNeg then none else some (zup h a (.inr (t, n, .inl (upd g i.toNatClampNeg x))))) else none
  | _ => none
abbrev zsI (h : zH) (a : Nat) (i x : Int32) : Option zH := zS32 0 h a i x
abbrev zsZ (h : zH) (a : Nat) (i x : Int32) : Option zH := zS32 2 h a i (vp_nar .boolean x)
def zsJ (h : zH) (a : Nat) (i : Int32) (x : Int64) : Option zH := match h a with
  | .inr (t', n, .inr (.inl g)) => if t' = 1 then (if i < 0 ∨ n ≤ i.toNatClampNeg then none else some (zup h a (.inr (1, n, .inr (.inl (vp_updL g i.toNatClampNeg x)))))) else none
  | _ => none
def zlen (h : zH) (a : Nat) : Option Int32 := match h a with
  | .inr (t, n, _) => if t < 6 then some (Int32.ofNat n) else none
  | _ => none
def ztab (i : Nat) (k : Int32) : Option Int32 := if k < 0 ∨ (zsl i).length ≤ k.toNatClampNeg then none else some ((zsl i).getD k.toNatClampNeg 0)
def zcpI (h : zH) (a : Nat) (sp : Int32) (b : Nat) (dp n : Int32) : Option zH := match h a, h b with
  | .inr (t, n0, .inl f), .inr (t', n1, .inl g) => if t = 0 ∧ t' = 0 ∧ ¬ sp < 0 ∧ ¬ dp < 0 ∧ ¬ n < 0 ∧ sp.toNatClampNeg + n.toNatClampNeg ≤ n0 ∧ dp.toNatClampNeg + n.toNatClampNeg ≤ n1 then some (zup h b (.inr (0, n1, .inl (va_cpy f g sp.toNatClampNeg dp.toNatClampNeg n.toNatClampNeg)))) else none
  | _, _ => none
def zcpJ (h : zH) (a : Nat) (sp : Int32) (b : Nat) (dp n : Int32) : Option zH := match h a, h b with
  | .inr (t, n0, .inr (.inl f)), .inr (t', n1, .inr (.inl g)) => if t = 1 ∧ t' = 1 ∧ ¬ sp < 0 ∧ ¬ dp < 0 ∧ ¬ n < 0 ∧ sp.toNatClampNeg + n.toNatClampNeg ≤ n0 ∧ dp.toNatClampNeg + n.toNatClampNeg ≤ n1 then some (zup h b (.inr (1, n1, .inr (.inl (va_cpy f g sp.toNatClampNeg dp.toNatClampNeg n.toNatClampNeg))))) else none
  | _, _ => none
/-- a loop, so many rounds at most -/
def zloop {S R : Type} (f : (S → Option R) → S → Option R) : Nat → S → Option R
  | 0 => fun _ => none
  | n + 1 => fun s => f (zloop f n) s
theorem zls {S R : Type} {f : (S → Option R) → S → Option R} {n : Nat} {s : S} {z : Option R} (h : zloop f (n + 1) s = z) : f (zloop f n) s = z := h
/-- more rounds than any loop makes -/
noncomputable def zN : Nat := Classical.choose (⟨1048576, by omega⟩ : ∃ n : Nat, 1000000 < n)
theorem zif_t {α : Type} {c : Prop} [i : Decidable c] {a b z : α} (hc : c) (h : (if c then a else b) = z) : a = z := (if_pos hc).symm.trans h
theorem zif_f {α : Type} {c : Prop} [i : Decidable c] {a b z : α} (hc : ¬ c) (h : (if c then a else b) = z) : b = z := (if_neg hc).symm.trans h
theorem zbd {α β : Type} {o : Option α} {f : α → Option β} {z : β} (h : o.bind f = some z) : ∃ v, o = some v ∧ f v = some z := Option.bind_eq_some_iff.mp h
theorem zat_O {h : zH} {a c : Nat} (hc : zcls h a = c) (hn : c < 90) : ∃ fs, h a = .inl (c, fs) := by
  unfold zcls at hc
  split at hc
  · rename_i o heq
    exact ⟨o.2, by rw [heq, ← hc]⟩
  · omega
theorem zrI_at {h : zH} {a c j : Nat} {x : Int32} (hv : zrI h a c j = some x) : ∃ fs, h a = .inl (c, fs) ∧ fs[j]? = some (.int x) := by
  unfold zrI at hv
  split at hv
  · rename_i o heq
    split at hv
    · rename_i hc
      split at hv
      · rename_i y hy
        cases hv
        exact ⟨o.2, by rw [heq, ← hc], hy⟩
      · cases hv
    · cases hv
  · cases hv
theorem zrR_at {h : zH} {a c j : Nat} {x : Nat} (hv : zrR h a c j = some x) : ∃ fs, h a = .inl (c, fs) ∧ fs[j]? = some (.ref x) := by
  unfold zrR at hv
  split at hv
  · rename_i o heq
    split at hv
    · rename_i hc
      split at hv
      · rename_i y hy
        cases hv
        exact ⟨o.2, by rw [heq, ← hc], hy⟩
      · cases hv
    · cases hv
  · cases hv
theorem zwV_at {h h' : zH} {a c j : Nat} {v : Value} (hv : zwV h a c j v = some h') : ∃ fs, h a = .inl (c, fs) ∧ j < fs.length ∧ h' = zup h a (.inl (c, fs.set j v)) := by
  unfold zwV at hv
  split at hv
  · rename_i o heq
    split at hv
    · rename_i hc
      cases hv
      exact ⟨o.2, by rw [heq, ← hc.1], hc.2, rfl⟩
    · cases hv
  · cases hv
theorem zA32_at {t : Nat} {h : zH} {a : Nat} {i x : Int32} (hv : zA32 t h a i = some x) : ∃ n g, h a = .inr (t, n, .inl g) ∧ vp_in i n ∧ g i.toNatClampNeg = x := by
  unfold zA32 at hv
  split at hv
  · rename_i t' n g heq
    split at hv
    · rename_i ht
      split at hv
      · cases hv
      · rename_i hin
        cases hv
        exact ⟨n, g, by rw [heq, ht], hin, rfl⟩
    · cases hv
  · cases hv
theorem zaJ_at {h : zH} {a : Nat} {i : Int32} {x : Int64} (hv : zaJ h a i = some x) : ∃ n g, h a = .inr (1, n, .inr (.inl g)) ∧ vp_in i n ∧ g i.toNatClampNeg = x := by
  unfold zaJ at hv
  split at hv
  · rename_i t' n g heq
    split at hv
    · rename_i ht
      split at hv
      · cases hv
      · rename_i hin
        cases hv
        exact ⟨n, g, by rw [heq, ht], hin, rfl⟩
    · cases hv
  · cases hv
theorem zaR_at {t : Nat} {h : zH} {a : Nat} {i : Int32} {x : Nat} (hv : zaR t h a i = some x) : ∃ n g, h a = .inr (t, n, .inr (.inr g)) ∧ vp_in i n ∧ g i.toNatClampNeg = some x := by
  unfold zaR at hv
  split at hv
  · rename_i t' n g heq
    split at hv
    · rename_i ht
      split at hv
      · cases hv
      · rename_i hin
        exact ⟨n, g, by rw [heq, ht], hin, hv⟩
    · cases hv
  · cases hv
theorem zS32_at {t : Nat} {h h' : zH} {a : Nat} {i x : Int32} (hv : zS32 t h a i x = some h') : ∃ n g, h a = .inr (t, n, .inl g) ∧ vp_in i n ∧ h' = zup h a (.inr (t, n, .inl (upd g i.toNatClampNeg x))) := by
  unfold zS32 at hv
  split at hv
  · rename_i t' n g heq
    split at hv
    · rename_i ht
      split at hv
      · cases hv
      · rename_i hin
        cases hv
        exact ⟨n, g, by rw [heq, ht], hin, rfl⟩
    · cases hv
  · cases hv
theorem zsJ_at {h h' : zH} {a : Nat} {i : Int32} {x : Int64} (hv : zsJ h a i x = some h') : ∃ n g, h a = .inr (1, n, .inr (.inl g)) ∧ vp_in i n ∧ h' = zup h a (.inr (1, n, .inr (.inl (vp_updL g i.toNatClampNeg x)))) := by
  unfold zsJ at hv
  split at hv
  · rename_i t' n g heq
    split at hv
    · rename_i ht
      split at hv
      · cases hv
      · rename_i hin
        cases hv
        exact ⟨n, g, by rw [heq, ht], hin, rfl⟩
    · cases hv
  · cases hv
theorem zlen_at {h : zH} {a : Nat} {x : Int32} (hv : zlen h a = some x) : ∃ t n y, t < 6 ∧ h a = .inr (t, n, y) ∧ Int32.ofNat n = x := by
  unfold zlen at hv
  split at hv
  · rename_i t n y heq
    split at hv
    · rename_i ht
      cases hv
      exact ⟨t, n, y, ht, heq, rfl⟩
    · cases hv
  · cases hv
theorem zcpI_at {h h' : zH} {a b : Nat} {sp dp n : Int32} (hv : zcpI h a sp b dp n = some h') : ∃ n0 n1 f g, h a = .inr (0, n0, .inl f) ∧ h b = .inr (0, n1, .inl g) ∧ ¬ sp < 0 ∧ ¬ dp < 0 ∧ ¬ n < 0 ∧ sp.toNatClampNeg + n.toNatClampNeg ≤ n0 ∧ dp.toNatClampNeg + n.toNatClampNeg ≤ n1 ∧ h' = zup h b (.inr (0, n1, .inl (va_cpy f g sp.toNatClampNeg dp.toNatClampNeg n.toNatClampNeg))) := by
  unfold zcpI at hv
  split at hv
  · rename_i t n0 f t' n1 g ha hb
    split at hv
    · rename_i hc
      obtain ⟨rfl, rfl, c1, c2, c3, c4, c5⟩ := hc
      cases hv
      exact ⟨n0, n1, f, g, ha, hb, c1, c2, c3, c4, c5, rfl⟩
    · cases hv
  · cases hv
theorem zcpJ_at {h h' : zH} {a b : Nat} {sp dp n : Int32} (hv : zcpJ h a sp b dp n = some h') : ∃ n0 n1 f g, h a = .inr (1, n0, .inr (.inl f)) ∧ h b = .inr (1, n1, .inr (.inl g)) ∧ ¬ sp < 0 ∧ ¬ dp < 0 ∧ ¬ n < 0 ∧ sp.toNatClampNeg + n.toNatClampNeg ≤ n0 ∧ dp.toNatClampNeg + n.toNatClampNeg ≤ n1 ∧ h' = zup h b (.inr (1, n1, .inr (.inl (va_cpy f g sp.toNatClampNeg dp.toNatClampNeg n.toNatClampNeg)))) := by
  unfold zcpJ at hv
  split at hv
  · rename_i t n0 f t' n1 g ha hb
    split at hv
    · rename_i hc
      obtain ⟨rfl, rfl, c1, c2, c3, c4, c5⟩ := hc
      cases hv
      exact ⟨n0, n1, f, g, ha, hb, c1, c2, c3, c4, c5, rfl⟩
    · cases hv
  · cases hv
/-- a call on an object of a class -/
def zcv {α : Type} (h : zH) (a ci : Nat) (o : Option α) : Option α := if zcls h a = ci then o else none
theorem zcv_at {α : Type} {h : zH} {a ci : Nat} {o : Option α} {v : α} (hv : zcv h a ci o = some v) : zcls h a = ci ∧ o = some v := by
  unfold zcv at hv
  split at hv
  · exact ⟨by assumption, hv⟩
  · cases hv
/-- behind what gives a number and a heap -/
def zb2 {α β : Type} (o : Option (α × zH)) (f : α → zH → Option β) : Option β := match o with
  | some (a, h) => f a h
  | none => none
theorem zb2_at {α β : Type} {o : Option (α × zH)} {f : α → zH → Option β} {z : β} (h : zb2 o f = some z) : ∃ v h1, o = some (v, h1) ∧ f v h1 = some z := by
  rcases o with _ | ⟨v, h1⟩
  · cases h
  · exact ⟨v, h1, rfl, h⟩
/-- an answer that is true or false -/
def zbl {α : Type} (x : Int32) (o : Option α) : Option α := if x = 0 ∨ x = 1 then o else none
theorem zbl_at {α : Type} {x : Int32} {o : Option α} {v : α} (hv : zbl x o = some v) : (x = 0 ∨ x = 1) ∧ o = some v := by
  unfold zbl at hv
  split at hv
  · exact ⟨by assumption, hv⟩
  · cases hv
