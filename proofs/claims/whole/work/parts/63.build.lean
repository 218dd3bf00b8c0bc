/-! BUILDING THE WORLD: rows of int rows -/
def bC (c : ClassId) (N h0 i : Nat) : Cell := arrV c N (fun j => if j < i then .ref (h0 + 1 + j) else .null)
def bI (comp : ClassId) (M : Nat) : Cell := arrV comp M (fun _ => .int 0)
theorem bC_s {c : ClassId} {N h0 i : Nat} : (bC c N h0 i).setSlot i (.ref (h0 + 1 + i)) = bC c N h0 (i + 1) := by
  unfold bC
  rw [arrV_store]
  refine congrArg (arrV c N) (funext fun j => ?_)
  unfold updV
  by_cases e : j = i
  · rw [if_pos e, e, if_pos (by omega)]
  · rw [if_neg e]
    show (if j < i then _ else _) = (if j < i + 1 then _ else _)
    by_cases q : j < i
    · rw [if_pos q, if_pos (by omega)]
    · rw [if_neg q, if_neg (by omega)]
theorem bC_z {c : ClassId} {N h0 i : Nat} : (bC c N h0 i).slots.size = N := arrV_size _ _ _
theorem bI_z {c : ClassId} {M : Nat} : (bI c M).slots.size = M := arrV_size _ _ _
/-- so many of the rows are made -/
def bF (T : State) (c comp : ClassId) (N M : Nat) : Nat → State
  | 0 => T.pushCell (bC c N T.heap.size 0)
  | i + 1 => ((bF T c comp N M i).pushCell (bI comp M)).setCell T.heap.size (bC c N T.heap.size (i + 1))
section BFF
variable {T : State} {c comp : ClassId} {N M : Nat}
theorem bF_z : ∀ i, (bF T c comp N M i).heap.size = T.heap.size + 1 + i := by
  intro i
  induction i with
  | zero => simp [bF]
  | succ i ih => simp [bF, State.setCell, ih]; omega
theorem bF_o : ∀ i, (bF T c comp N M i).heap[T.heap.size]? = some (bC c N T.heap.size i) := by
  intro i
  induction i with
  | zero => simp [bF]
  | succ i ih =>
    have hlt : T.heap.size < (bF T c comp N M i).heap.size := by rw [bF_z]; omega
    exact State.heap_setCell_self (by rw [State.heap_pushCell_of_lt (h := hlt)]; exact ih)
theorem bF_vm : ∀ i, (bF T c comp N M i).vm = T.vm := by
  intro i
  induction i with
  | zero => rfl
  | succ i ih => simp [bF, ih]
theorem bF_u : ∀ i, (bF T c comp N M i).slotsUsed = T.slotsUsed + N + i * M := by
  intro i
  induction i with
  | zero => simp [bF, bC_z]
  | succ i ih => simp [bF, ih, bI_z, Nat.succ_mul]; omega
theorem bF_top (f : JFrame) : ∀ i, bF (T.setTop f) c comp N M i = (bF T c comp N M i).setTop f := by
  intro i
  induction i with
  | zero => rfl
  | succ i ih => simp only [bF, ih, State.heap_setTop, State.pushCell_setTop, State.setCell_setTop]
theorem bF_old {a : Nat} (ha : a < T.heap.size) : ∀ i, (bF T c comp N M i).heap[a]? = T.heap[a]? := by
  intro i
  induction i with
  | zero => exact State.heap_pushCell_of_lt _ _ ha
  | succ i ih =>
    have hlt : a < (bF T c comp N M i).heap.size := by rw [bF_z]; omega
    show (((bF T c comp N M i).pushCell (bI comp M)).setCell T.heap.size _).heap[a]? = _
    rw [State.heap_setCell_other (show T.heap.size ≠ a by omega), State.heap_pushCell_of_lt (h := hlt)]
    exact ih
theorem bF_in {j : Nat} : ∀ i, j < i → (bF T c comp N M i).heap[T.heap.size + 1 + j]? = some (bI comp M) := by
  intro i
  induction i with
  | zero => intro h; omega
  | succ i ih =>
    intro h
    show (((bF T c comp N M i).pushCell (bI comp M)).setCell T.heap.size _).heap[T.heap.size + 1 + j]? = _
    rw [State.heap_setCell_other (show T.heap.size ≠ T.heap.size + 1 + j by omega)]
    by_cases q : j < i
    · have hlt : T.heap.size + 1 + j < (bF T c comp N M i).heap.size := by rw [bF_z]; omega
      rw [State.heap_pushCell_of_lt (h := hlt)]
      exact ih q
    · obtain rfl : j = i := by omega
      have := State.heap_pushCell_size (bF T c comp N M j) (bI comp M)
      rw [bF_z] at this
      exact this
end BFF
section BMK
variable {E : CtlPost} {e : Env} {d : Bool} {acts : List Action} {t : State}
theorem b_alloc {c cc : ClassId} {k : Class} {ty : FieldType} {n : Nat} {v : Value} (hk : t.vm.classes[c]? = some k) (hkind : k.kind = .array cc ty) (h1 : ¬ n > e.platform.arrayLengthLimit) (h2 : ¬ n * componentBytes ty > e.platform.maxHeapBytes) (hf : fits ty v = true) (hd : v.isDefault = true) (h3 : t.heap.size < e.platform.maxCells) (h4 : t.slotsUsed + n ≤ e.platform.maxSlots) {Q : Addr → Pre} (hq : Q t.heap.size d acts (t.pushCell (arrV c n (fun _ => v)))) : wp (Jvm.newArray c n v) Q E e d acts t := by
  have hfits : ∀ i w, (Array.replicate n v)[i]? = some w → t.fitsSlot c .none i w = true := by
    intro i w hw
    simp only [Array.getElem?_replicate] at hw
    split at hw
    · cases hw; simp [State.fitsSlot, State.slotType?, hk, hkind, hf]
    · cases hw
  have ha : allocActs (Array.replicate n v) t.heap.size acts = acts := by
    unfold allocActs
    rw [if_pos (by rw [Array.all_replicate]; split <;> simp [hd])]
  rw [← arrV_new] at hq
  simp only [Jvm.newArray, Jvm.arrayFits, wp_bind', W.ask, W.ite, h1, if_false, wp_pure', W.theClass, hk, hkind, h2, W.alloc, W.stop, Option.some.injEq, exists_eq_left', Array.size_replicate, ha]
  rw [if_neg (by omega)]
  exact ⟨h3, h4, hfits, hq⟩
theorem b_make {c comp cc : ClassId} {k kc : Class} {n m : Int32} {N M : Nat} (eN : n.toNatClampNeg = N) (eM : m.toNatClampNeg = M) (hk : t.vm.classes[c]? = some k) (hkind : k.kind = .array comp (.array .int)) (hkc : t.vm.classes[comp]? = some kc) (hkindc : kc.kind = .array cc .int) (hn : ¬ n < 0) (hm : ¬ m < 0) (l1 : ¬ N > e.platform.arrayLengthLimit) (b1 : ¬ N * 4 > e.platform.maxHeapBytes) (l2 : ¬ M > e.platform.arrayLengthLimit) (b2 : ¬ M * 4 > e.platform.maxHeapBytes) (h3 : t.heap.size + 1 + N ≤ e.platform.maxCells) (h4 : t.slotsUsed + N + N * M ≤ e.platform.maxSlots) {Q : Addr → Pre} (hq : ∀ d' acts', Q t.heap.size d' acts' (bF t c comp N M N)) : wp (multianewarray.make c [n, m]) Q E e d acts t := by
  have hfind : ([m].find? (· < 0)) = none := by simp [hm]
  rw [multianewarray.make]
  simp only [wp_bind', W.ite, hn, if_false, wp_pure', W.theClass, hk, hkind, Option.some.injEq, exists_eq_left']
  rw [eN]
  refine b_alloc hk hkind l1 b1 rfl rfl (by omega) (by have := Nat.zero_le (N * M); omega) ?_
  have e0 : t.pushCell (arrV c N (fun _ => .null)) = bF t c comp N M 0 := by
    show _ = t.pushCell (bC c N t.heap.size 0)
    refine congrArg t.pushCell (congrArg (arrV c N) (funext fun j => ?_))
    rw [if_neg (by omega)]
  rw [e0]
  simp only [hfind]
  rw [ite_self, wp_bind', Std.Legacy.Range.forIn_eq_forIn_range']
  have hsz : ([:N] : Std.Legacy.Range).size = N := by simp [Std.Legacy.Range.size]
  rw [hsz]
  show wp (forIn (List.range' 0 N 1) PUnit.unit _) _ E e d acts _
  refine wp_forIn_inv (fun rest s' => ∃ i, i ≤ N ∧ rest = List.range' i (N - i) ∧ s' = bF t c comp N M i) _ _ ⟨0, Nat.zero_le _, rfl, rfl⟩ ?_ ?_
  · rintro x rest s' d' acts' Q' ⟨i, hi, hl, rfl⟩ hnext
    have hlt : i < N := by
      rcases Nat.lt_or_ge i N with h | h
      · exact h
      · rw [show N - i = 0 by omega] at hl; simp at hl
    rw [show N - i = (N - (i + 1)) + 1 by omega, List.range'_succ] at hl
    obtain ⟨rfl, hrest⟩ := List.cons.inj hl
    have hmul : x * M + M ≤ N * M := by
      have := Nat.mul_le_mul_right M (show x + 1 ≤ N from hlt)
      rw [Nat.succ_mul] at this; exact this
    have hlt0 : t.heap.size < (bF t c comp N M x).heap.size := by rw [bF_z]; omega
    simp only [wp_bind']
    rw [multianewarray.make]
    simp only [wp_bind', W.ite, hm, if_false, wp_pure', W.theClass, bF_vm, hkc, hkindc, Option.some.injEq, exists_eq_left']
    rw [eM]
    refine b_alloc (by rw [bF_vm]; exact hkc) hkindc l2 b2 rfl rfl (by rw [bF_z]; omega) (by rw [bF_u]; omega) ?_
    simp only [wp_bind', W.writeLoc, wp_pure']
    refine ⟨bC c N t.heap.size x, by rw [State.heap_pushCell_of_lt (h := hlt0)]; exact bF_o x, (fun w => by cases w), (by rw [bC_z]; exact hlt), ?_, hnext _ _ _ ⟨x + 1, hlt, hrest, ?_⟩⟩
    · show State.fitsSlot _ c .none x _ = true
      simp [State.fitsSlot, State.slotType?, bF_vm, hk, hkind, fits]
    · rw [bF_z, bC_s]; rfl
  · rintro s' d' acts' ⟨i, hi, hl, rfl⟩
    have hiN : i = N := by
      rcases Nat.lt_or_ge i N with h | h
      · rw [show N - i = (N - (i + 1)) + 1 by omega, List.range'_succ] at hl; cases hl
      · omega
    subst hiN
    simp only [wp_pure']
    exact hq _ _
end BMK
