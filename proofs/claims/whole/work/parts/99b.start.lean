/-! THE LAW FROM ITS ENTRY -/
/-- YOUR PART: from the entry, for every script of at most 3072 ints, the law comes to its end with true ('hflags': the launch's flags, for a law that throws: no stack traces) -/
theorem whole_start {p : Program} {e : Env} {s : State} {m : MethodId} {below : List Frame} {meth : Method} {c : Code} (l : Launch) (hflags : l.flags = flags0) {b L : Nat} {xs : Nat → Int32} (hL : L ≤ 3072) (C0 : lw_At p s m meth c b L xs) : W p l e room_1 s m #[Value.ref b] below meth c s.heap [] 0 0 (lw_Z below #[Value.ref b] s) (entryFrame m ([Value.ref b] : List Value).toArray 4) := by
  obtain ⟨G, hG, X, Y, hX, hbl⟩ := q_setup C0
  obtain ⟨hx, hb, hml, hown, hts, -⟩ := id X
  have hl := lv_entry ([Value.ref b]) (n := 4) (Nat.le_of_ble_eq_true rfl)
  rw [lg_entry_eq]
  generalize (lg_sl ([Value.ref b]) ++ List.replicate (4 - (lg_sl ([Value.ref b])).length) Slot.unset).toArray = ls at hl ⊢
  have hl : lv_has ls 4 [(0, .ref b)] := hl
  have hI : zI G 0 s (bA s.heap.size) s.heap [] hN := ⟨⟨fun _ _ => rfl, fun k q hk => absurd (zW_key hk).1 (Nat.not_lt_zero k)⟩, bD hG 0 hN, va_S.rf⟩
  refine b_newO (C := "AllHome") (T := nT6) (N := 12) (ci := 6) X hI hG ⟨rfl, Nat.le_refl _⟩ rfl nI6 nY6 nP6 kw12 kw13 kw1 (fs := [.null, .int 0, .null, .null, .int 0, .null, .int 0, .null, .null, .null, .null, .null]) (by decide) rfl (Nat.le_of_ble_eq_true rfl) (Nat.le_of_ble_eq_true rfl) d_law_0 (fun H hI => ?_)
  refine lv_dup hx hb d_law_3 rfl ?_
  refine b_call (As := []) (rest := [.ref (G.1 0)]) X Y hI hG ⟨by omega, by omega⟩ hl.1 (ci_Home_init l G s.heap.size hG (zup hN 0 D6) (zup_eq _ _ _)) J_Law_9 rfl (Nat.le_of_ble_eq_true rfl) ⟨(Nat.le_of_ble_eq_true rfl), (Nat.le_of_ble_eq_true rfl), (Nat.le_of_ble_eq_true rfl), (Nat.le_of_ble_eq_true rfl)⟩ rfl d_law_4 (fun H locs hI => ?_)
  refine lv_astore_n (lv' := [(1, .ref (G.1 0)), (0, .ref b)]) hx hb d_law_7 rfl hl (by decide) rfl (fun ls hl => ?_)
  refine b_newO (C := "AllHomeModel") (T := nT7) (N := 33) (ci := 7) X hI hG ⟨by omega, by omega⟩ rfl nI7 nY7 nP7 kw667 kw668 kw8 (fs := [.null, .int 0, .null, .null, .int 0, .null, .int 0, .null, .int 0, .int 0, .int 0, .int 0, .null, .null, .null, .null, .null, .null, .null, .int 0, .null, .null, .null, .null, .null, .int 0, .null, .int 0, .int 0, .null, .null, .null, .null]) (by decide) rfl (Nat.le_of_ble_eq_true rfl) (Nat.le_of_ble_eq_true rfl) d_law_8 (fun H hI => ?_)
  refine lv_dup hx hb d_law_11 rfl ?_
  refine b_call (As := []) (rest := [.ref (G.1 670)]) X Y hI hG ⟨by omega, by omega⟩ hl.1 (ci_Model_init l G s.heap.size hG (zup hA 670 D7) (zup_eq _ _ _)) J_Law_12 rfl (Nat.le_of_ble_eq_true rfl) ⟨(Nat.le_of_ble_eq_true rfl), (Nat.le_of_ble_eq_true rfl), (Nat.le_of_ble_eq_true rfl), (Nat.le_of_ble_eq_true rfl)⟩ rfl d_law_12 (fun H locs hI => ?_)
  refine lv_astore_n (lv' := [(2, .ref (G.1 670)), (1, .ref (G.1 0)), (0, .ref b)]) hx hb d_law_15 rfl hl (by decide) rfl (fun ls hl => ?_)
  refine lv_iconst (v := nI 0) hx hb d_law_16 (by decide) ?_
  refine lv_istore_n (lv' := [(3, .int (nI 0)), (2, .ref (G.1 670)), (1, .ref (G.1 0)), (0, .ref b)]) hx hb d_law_17 rfl hl (by decide) rfl (fun ls hl => ?_)
  exact q_loop X hX hbl hL L 0 (by omega) (by omega) H locs hS ls hI ⟨0, _, _, 0, 0, 0, 0, _, INV_0⟩ hl
