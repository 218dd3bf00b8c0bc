/-! THE MACHINE AT THE LAW'S ENTRY: classes, rows, static tables, links -/
theorem q_arr {s : State} {cA comp : ClassId} {k : Class} {ty : FieldType} (h1 : s.vm.classes[cA]? = some k) (h2 : k.kind = .array comp ty) : ArrOfT s cA ty := fun n z => ⟨fun k h => (by cases h), k, h1, comp, h2⟩
theorem q_in {args : Array Value} {s : State} (hts : ∀ w ∈ lw_tbl, w.before args s = true) {w : Cond} (i : Nat) (h : lw_tbl[i]? = some w) : w.before args s = true := hts w (List.mem_of_getElem? h)
theorem q_cls {args : Array Value} {s : State} (hts : ∀ w ∈ lw_tbl, w.before args s = true) : ∃ D : va_G, ∀ (c : Nat) (q : vw_C), zCl[c]? = some q → u_Kn s q.1 q.2.1 q.2.2 (D.1 c) (D.2 c) := by
  have hz : ∀ w ∈ zTb, w.before args s = true := fun w hw => hts w (zTb_lw hw)
  obtain ⟨c0, i0, k0⟩ := u_known (n := 4) hz nI0 (q_in hts (w := .instantiable "AllHome$Acts" 4) 178 (by decide +kernel))
  obtain ⟨c1, i1, k1⟩ := u_known (n := 4) hz nI1 (q_in hts (w := .instantiable "AllHome$Huts" 4) 87 (by decide +kernel))
  obtain ⟨c2, i2, k2⟩ := u_known (n := 14) hz nI2 (q_in hts (w := .instantiable "AllHome$Orders" 14) 111 (by decide +kernel))
  obtain ⟨c3, i3, k3⟩ := u_known (n := 3) hz nI3 (q_in hts (w := .instantiable "AllHome$Rules" 3) 118 (by decide +kernel))
  obtain ⟨c4, i4, k4⟩ := u_known (n := 6) hz nI4 (q_in hts (w := .instantiable "AllHome$Run" 6) 198 (by decide +kernel))
  obtain ⟨c5, i5, k5⟩ := u_known (n := 4) hz nI5 (q_in hts (w := .instantiable "AllHome$Shelf" 4) 224 (by decide +kernel))
  obtain ⟨c6, i6, k6⟩ := u_known (n := 12) hz nI6 (q_in hts (w := .instantiable "AllHome" 12) 79 (by decide +kernel))
  obtain ⟨c7, i7, k7⟩ := u_known (n := 33) hz nI7 (q_in hts (w := .instantiable "AllHomeModel" 33) 734 (by decide +kernel))
  refine ⟨(fun k => match k with | 0 => c0 | 1 => c1 | 2 => c2 | 3 => c3 | 4 => c4 | 5 => c5 | 6 => c6 | _ => c7, fun k => match k with | 0 => i0 | 1 => i1 | 2 => i2 | 3 => i3 | 4 => i4 | 5 => i5 | 6 => i6 | _ => i7), fun c q hq => ?_⟩
  match c, hq with
  | 0, hq => cases hq; exact k0
  | 1, hq => cases hq; exact k1
  | 2, hq => cases hq; exact k2
  | 3, hq => cases hq; exact k3
  | 4, hq => cases hq; exact k4
  | 5, hq => cases hq; exact k5
  | 6, hq => cases hq; exact k6
  | 7, hq => cases hq; exact k7
  | c + 8, hq => simp [zCl] at hq
theorem q_prim {args : Array Value} {s : State} {ty : FieldType} (h : (Cond.arrayClass ty).before args s = true) (hr : ∀ cA, va_RA s cA ty = (s.vm.findClass ("[" ++ ty.toString) = some cA)) : ∃ cA : ClassId, ArrOfT s cA ty ∧ va_RA s cA ty := by
  obtain ⟨c, k, comp, h1, h2, h3⟩ := Cond.arrayClass_spec h
  exact ⟨c, q_arr h2 h3, by rw [hr]; exact h1⟩
theorem q_tys {args : Array Value} {s : State} (hts : ∀ w ∈ lw_tbl, w.before args s = true) : ∃ cA : Nat → ClassId, ∀ (k : Nat) (q : ClassId × FieldType), [(cA 0, FieldType.int), (cA 1, .long), (cA 2, .boolean), (cA 3, .object "AllHome$Run"), (cA 4, .object "AllHome$Shelf"), (cA 5, .array .int)][k]? = some q → ArrOfT s q.1 q.2 ∧ va_RA s q.1 q.2 := by
  obtain ⟨a0, x0⟩ := q_prim (q_in hts (w := .arrayClass .int) 107 (by decide +kernel)) (fun _ => rfl)
  obtain ⟨a1, x1⟩ := q_prim (q_in hts (w := .arrayClass .long) 242 (by decide +kernel)) (fun _ => rfl)
  obtain ⟨a2, x2⟩ := q_prim (q_in hts (w := .arrayClass .boolean) 133 (by decide +kernel)) (fun _ => rfl)
  obtain ⟨m3, a3, k3, f3, -, g3, e3, n3⟩ := Cond.arrayOver_spec (q_in hts (w := .arrayOver (.object "AllHome$Run")) 109 (by decide +kernel))
  obtain ⟨m4, a4, k4, f4, -, g4, e4, n4⟩ := Cond.arrayOver_spec (q_in hts (w := .arrayOver (.object "AllHome$Shelf")) 197 (by decide +kernel))
  obtain ⟨m5, a5, k5, f5, -, g5, e5, n5⟩ := arrayOverA_spec (q_in hts (w := .arrayOver (.array .int)) 93 (by decide +kernel))
  refine ⟨fun k => match k with | 0 => a0 | 1 => a1 | 2 => a2 | 3 => a3 | 4 => a4 | _ => a5, fun k q hq => ?_⟩
  match k, hq with
  | 0, hq => cases hq; exact x0
  | 1, hq => cases hq; exact x1
  | 2, hq => cases hq; exact x2
  | 3, hq => cases hq; exact ⟨q_arr g3 e3, k3, m3, g3, e3, f3, n3⟩
  | 4, hq => cases hq; exact ⟨q_arr g4 e4, k4, m4, g4, e4, f4, n4⟩
  | 5, hq => cases hq; exact ⟨q_arr g5 e5, n5⟩
  | k + 6, hq => simp at hq
theorem q_tab {args : Array Value} {s : State} {A : Nat → Prop} (i : Nat) (hN : (zsl i).length < 2 ^ 31) (hlay : (Cond.laysStatic (zsc i) (zsn i) "[I").before args s = true) (hini : (Cond.initialized (zsc i)).before args s = true) (harr : (Cond.arrayOf (.static (zsc i) (zsn i) "[I") .int).before args s = true) (hlen : (Cond.eq (.length (.static (zsc i) (zsn i) "[I")) (.int (Int32.ofNat (zsl i).length))).before args s = true) (hel : ∀ j, j < (zsl i).length → (Cond.eq (.elem (.static (zsc i) (zsn i) "[I") (.int (Int32.ofNat j))) (.int ((zsl i).getD j 0))).before args s = true) (hA : ∀ a : Nat, a < s.heap.size → ¬ A a) : ∃ t : Nat, va_Z (zsc i) (zsn i) "[I" (.ref t) A s s.heap ∧ va_T .int t (zsl i).length (fun j => .int ((zsl i).getD j 0)) A s s.heap := by
  obtain ⟨t, hv, hT⟩ := va_Tof (N := (zsl i).length) (f := fun j => .int ((zsl i).getD j 0)) hN harr (va_eqt hlen) (fun j hj => va_eqt (hel j hj)) hA
  exact ⟨t, va_Zof hlay hini hv hA, hT⟩
def q_fl : List Cond := flatC (Jvm.Cond.and given_1 narrow_1)
theorem q_e0 : (List.range 9).map (fun j => Cond.eq (.elem (.static "AllHome" "ABOVE" "[I") (.int (Int32.ofNat j))) (.int ((zsl 0).getD j 0))) = (q_fl.drop 19).take 9 := by decide +kernel
theorem q_e1 : (List.range 9).map (fun j => Cond.eq (.elem (.static "AllHome" "FAMILY" "[I") (.int (Int32.ofNat j))) (.int ((zsl 1).getD j 0))) = (q_fl.drop 7).take 9 := by decide +kernel
theorem q_e2 : (List.range 11).map (fun j => Cond.eq (.elem (.static "AllHome" "HUT_CELLS" "[I") (.int (Int32.ofNat j))) (.int ((zsl 2).getD j 0))) = (q_fl.drop 31).take 11 := by decide +kernel
theorem q_e3 : (List.range 11).map (fun j => Cond.eq (.elem (.static "AllHome" "HUT_FAMILY" "[I") (.int (Int32.ofNat j))) (.int ((zsl 3).getD j 0))) = (q_fl.drop 45).take 11 := by decide +kernel
theorem q_e4 : (List.range 36).map (fun j => Cond.eq (.elem (.static "AllHome$Acts" "BODIES" "[I") (.int (Int32.ofNat j))) (.int ((zsl 4).getD j 0))) = (q_fl.drop 59).take 36 := by decide +kernel
theorem q_sts {args : Array Value} {s : State} {A : Nat → Prop} (hts : ∀ w ∈ lw_tbl, w.before args s = true) (hgv : (Jvm.Cond.and given_1 narrow_1).before args s = true) (hA : ∀ a : Nat, a < s.heap.size → ¬ A a) : ∃ t : Nat → Nat, ∀ i, i < 5 → va_Z (zsc i) (zsn i) "[I" (.ref (t i)) A s s.heap ∧ va_T .int (t i) (zsl i).length (fun j => .int ((zsl i).getD j 0)) A s s.heap := by
  have hs := flat_of_before _ hgv
  have hq : ∀ {w : Cond} (i : Nat), q_fl[i]? = some w → w.before args s = true := fun i h => hs _ (List.mem_of_getElem? h)
  have i1 := q_in hts (w := .initialized "AllHome") 67 (by decide +kernel)
  have i5 := q_in hts (w := .initialized "AllHome$Acts") 71 (by decide +kernel)
  obtain ⟨t0, x0⟩ := q_tab (A := A) 0 (by decide) (q_in hts (w := .laysStatic "AllHome" "ABOVE" "[I") 437 (by decide +kernel)) i1 (hq (w := .arrayOf (.static "AllHome" "ABOVE" "[I") .int) 17 (by decide +kernel)) (hq (w := .eq (.length (.static "AllHome" "ABOVE" "[I")) (.int (Int32.ofNat 9))) 18 (by decide +kernel)) (fun j hj => hs _ (va_run q_e0 j hj)) hA
  obtain ⟨t1, x1⟩ := q_tab (A := A) 1 (by decide) (q_in hts (w := .laysStatic "AllHome" "FAMILY" "[I") 361 (by decide +kernel)) i1 (hq (w := .arrayOf (.static "AllHome" "FAMILY" "[I") .int) 5 (by decide +kernel)) (hq (w := .eq (.length (.static "AllHome" "FAMILY" "[I")) (.int (Int32.ofNat 9))) 6 (by decide +kernel)) (fun j hj => hs _ (va_run q_e1 j hj)) hA
  obtain ⟨t2, x2⟩ := q_tab (A := A) 2 (by decide) (q_in hts (w := .laysStatic "AllHome" "HUT_CELLS" "[I") 494 (by decide +kernel)) i1 (hq (w := .arrayOf (.static "AllHome" "HUT_CELLS" "[I") .int) 29 (by decide +kernel)) (hq (w := .eq (.length (.static "AllHome" "HUT_CELLS" "[I")) (.int (Int32.ofNat 11))) 30 (by decide +kernel)) (fun j hj => hs _ (va_run q_e2 j hj)) hA
  obtain ⟨t3, x3⟩ := q_tab (A := A) 3 (by decide) (q_in hts (w := .laysStatic "AllHome" "HUT_FAMILY" "[I") 497 (by decide +kernel)) i1 (hq (w := .arrayOf (.static "AllHome" "HUT_FAMILY" "[I") .int) 43 (by decide +kernel)) (hq (w := .eq (.length (.static "AllHome" "HUT_FAMILY" "[I")) (.int (Int32.ofNat 11))) 44 (by decide +kernel)) (fun j hj => hs _ (va_run q_e3 j hj)) hA
  obtain ⟨t4, x4⟩ := q_tab (A := A) 4 (by decide) (q_in hts (w := .laysStatic "AllHome$Acts" "BODIES" "[I") 636 (by decide +kernel)) i5 (hq (w := .arrayOf (.static "AllHome$Acts" "BODIES" "[I") .int) 57 (by decide +kernel)) (hq (w := .eq (.length (.static "AllHome$Acts" "BODIES" "[I")) (.int (Int32.ofNat 36))) 58 (by decide +kernel)) (fun j hj => hs _ (va_run q_e4 j hj)) hA
  refine ⟨fun k => match k with | 0 => t0 | 1 => t1 | 2 => t2 | 3 => t3 | _ => t4, fun i hi => ?_⟩
  match i, hi with
  | 0, _ => exact x0
  | 1, _ => exact x1
  | 2, _ => exact x2
  | 3, _ => exact x3
  | 4, _ => exact x4
  | i + 5, hi => omega
/-- where the law begins -/
theorem q_setup {p : Program} {s : State} {m : MethodId} {meth : Method} {c : Code} {b L : Nat} {xs : Nat → Int32} (C0 : lw_At p s m meth c b L xs) : ∃ G : zG, bG1 G s.heap.size ∧ zX p s m #[Value.ref b] meth c "AllHomeLaw" code 4 ret G (bA s.heap.size) ∧ bX s ∧ va_X b L xs s s.heap ∧ b < s.heap.size := by
  obtain ⟨hx, hb, hr, hml, hown, hts, hX, hbl, hlocks, hgv⟩ := C0
  have hA : ∀ a : Nat, a < s.heap.size → ¬ bA s.heap.size a := fun a h => Nat.not_le.mpr h
  obtain ⟨D, hD⟩ := q_cls hts
  obtain ⟨cA, hT⟩ := q_tys hts
  obtain ⟨t, hS⟩ := q_sts hts hgv hA
  refine ⟨(fun k => s.heap.size + k, cA, t, D), fun k => rfl, ⟨hx, hb, hml, hown, fun w hw => hts w (zTb_lw hw), hr, hlocks, ⟨hD, hT⟩, hS, fun w hw => va_Nw.of (zNs_on w hw) (hts w (zNs_in w hw))⟩, ⟨bAO.of (q_in hts (w := .arrayOver (.array .int)) 93 (by decide +kernel)), va_AO.of (q_in hts (w := .arrayOver (.object "AllHome$Run")) 109 (by decide +kernel)), va_AO.of (q_in hts (w := .arrayOver (.object "AllHome$Shelf")) 197 (by decide +kernel))⟩, hX, hbl⟩
