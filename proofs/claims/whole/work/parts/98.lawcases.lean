/-! THE LAW'S CASES -/
theorem q_cmp (x : Int64) : lg_cmp x x = 0 := by
  unfold lg_cmp
  rw [if_neg (by simp [Int64.lt_iff_toInt_lt]), if_pos rfl]
abbrev qV (a b : Int32) : Int64 := (a.toInt64 <<< ((32 : Int32).toInt64 &&& 63)) ||| (b.toInt64 &&& 4294967295)
section LAW
variable {p : Program} {l : Launch} {e : Env} {s : State} {m : MethodId} {below : List Frame} {meth : Method} {c : Code} {H : Heap} {locs : List Loc} {Q : State → Prop} {ls : Array Slot} {rest : List Value} {G : zG} {h : zH} {b L : Nat} {xs : Nat → Int32} {j : Nat}
theorem q_arg {R : Room} {cells slots k pc : Nat} {n : Int} (X : zX p s m #[Value.ref b] meth c "AllHomeLaw" code 4 ret G (bA s.heap.size)) (hX : va_X b L xs s s.heap) (hbl : b < s.heap.size) (hI : zI G 693 s (bA s.heap.size) H locs h) (hl : lv_has ls 4 [(3, .int (nI (6 * j))), (2, .ref (G.1 670)), (1, .ref (G.1 0)), (0, .ref b)]) (hj : 6 * j + k < L) (hL : L ≤ 3072) (hn : Int32.ofInt n = nI k) (D : qA pc n)
    (kk : W p l e R s m #[Value.ref b] below meth c H locs cells slots Q (F0 m (pc + 5) ls (.int (xs (6 * j + k)) :: rest))) : W p l e R s m #[Value.ref b] below meth c H locs cells slots Q (F0 m pc ls rest) := by
  obtain ⟨hx, hb, hml, hown, hts, -⟩ := X
  obtain ⟨d0, d1, d2, d3, d4⟩ := D
  refine lv_aload_n hx hb d0 rfl (lv_at hl 3 rfl) ?_
  refine lv_iload_n hx hb d1 rfl (lv_at hl 0 rfl) ?_
  refine lv_iconst hx hb d2 hn ?_
  refine lv_iadd hx hb d3 ?_
  rw [nI_add]
  refine va_sld hx hb hX hbl (A := bA s.heap.size) (Nat.not_le.mpr hbl) hI.2.2 (vp_in_nI hj (by omega)) d4 ?_
  rw [nI_clamp (by omega)]
  exact kk
theorem w_feed (X : zX p s m #[Value.ref b] meth c "AllHomeLaw" code 4 ret G (bA s.heap.size)) (hX : va_X b L xs s s.heap) (hbl : b < s.heap.size) (hL : L ≤ 3072) (hI : zI G 693 s (bA s.heap.size) H locs h) (hl : lv_has ls 4 [(3, .int (nI (6 * j))), (2, .ref (G.1 670)), (1, .ref (G.1 0)), (0, .ref b)]) (hj : 6 * j + 6 ≤ L) (I : INVx (60 * j) h) (kk : ∀ (H1 : Heap) (locs1 : List Loc) (h1 : zH), zI G 693 s (bA s.heap.size) H1 locs1 h1 → INVx (60 * j + 60) h1 → W p l e room_1 s m #[Value.ref b] below meth c H1 locs1 693 87448 Q (F0 m 1118 ls [])) : W p l e room_1 s m #[Value.ref b] below meth c H locs 693 87448 Q (F0 m 156 ls []) := by
  obtain ⟨hx, hb, hml, hown, hts, -⟩ := id X
  obtain ⟨r, h1, h2, e1, e2, I'⟩ := k_feed I (by omega) (xs (6 * j + 1)) (xs (6 * j + 2))
  have q1 : zcls h1 670 = 7 := (ck_feed _ _ _ e1 670).trans I.cls.2
  refine lv_aload_n hx hb d_law_156 rfl (lv_at hl 2 rfl) ?_
  refine q_arg (k := 1) X hX hbl hI hl (by omega) hL rfl a_157 ?_
  refine q_arg (k := 2) X hX hbl hI hl (by omega) hL rfl a_162 ?_
  refine z_ci hI (z_runV (As := [.int (xs (6 * j + 1)), .int (xs (6 * j + 2))]) (rest := []) X hI hl.1 (c_Home_feed l G 693 0 _ _ h r h1 e1) C_Law_13 rfl I.cls.1 (Nat.le_of_ble_eq_true rfl) ⟨(Nat.le_of_ble_eq_true rfl), (Nat.le_of_ble_eq_true rfl), (Nat.le_of_ble_eq_true rfl), (Nat.le_of_ble_eq_true rfl)⟩ rfl d_law_167) (fun H locs hI => ?_)
  refine lv_aload_n hx hb d_law_170 rfl (lv_at hl 1 rfl) ?_
  refine q_arg (k := 1) X hX hbl hI hl (by omega) hL rfl a_171 ?_
  refine q_arg (k := 2) X hX hbl hI hl (by omega) hL rfl a_176 ?_
  refine z_ci hI (z_runV (As := [.int (xs (6 * j + 1)), .int (xs (6 * j + 2))]) (rest := [.int r]) X hI hl.1 (c_Model_feed l G 693 670 _ _ h1 r h2 e2) C_Law_17 rfl q1 (Nat.le_of_ble_eq_true rfl) ⟨(Nat.le_of_ble_eq_true rfl), (Nat.le_of_ble_eq_true rfl), (Nat.le_of_ble_eq_true rfl), (Nat.le_of_ble_eq_true rfl)⟩ rfl d_law_181) (fun H locs hI => ?_)
  exact lv_icmp_eq (tgt := 1118) hx hb d_law_184 (by decide) (fun _ => kk H locs h2 hI I') (fun q => absurd rfl q)
theorem w_hut (X : zX p s m #[Value.ref b] meth c "AllHomeLaw" code 4 ret G (bA s.heap.size)) (hX : va_X b L xs s s.heap) (hbl : b < s.heap.size) (hL : L ≤ 3072) (hI : zI G 693 s (bA s.heap.size) H locs h) (hl : lv_has ls 4 [(3, .int (nI (6 * j))), (2, .ref (G.1 670)), (1, .ref (G.1 0)), (0, .ref b)]) (hj : 6 * j + 6 ≤ L) (I : INVx (60 * j) h) (kk : ∀ (H1 : Heap) (locs1 : List Loc) (h1 : zH), zI G 693 s (bA s.heap.size) H1 locs1 h1 → INVx (60 * j + 60) h1 → W p l e room_1 s m #[Value.ref b] below meth c H1 locs1 693 87448 Q (F0 m 1118 ls [])) : W p l e room_1 s m #[Value.ref b] below meth c H locs 693 87448 Q (F0 m 189 ls []) := by
  obtain ⟨hx, hb, hml, hown, hts, -⟩ := id X
  obtain ⟨r, h1, h2, e1, e2, I'⟩ := k_hut I (by omega)
  have q1 : zcls h1 670 = 7 := zc_rI (by unfold m_Model_hut at e2; exact e2)
  refine lv_aload_n hx hb d_law_189 rfl (lv_at hl 2 rfl) ?_
  refine z_ci hI (z_runV (As := []) (rest := []) X hI hl.1 (c_Home_hut l G 693 0 h r h1 e1) C_Law_18 rfl I.cls.1 (Nat.le_of_ble_eq_true rfl) ⟨(Nat.le_of_ble_eq_true rfl), (Nat.le_of_ble_eq_true rfl), (Nat.le_of_ble_eq_true rfl), (Nat.le_of_ble_eq_true rfl)⟩ rfl d_law_190) (fun H locs hI => ?_)
  refine lv_aload_n hx hb d_law_193 rfl (lv_at hl 1 rfl) ?_
  refine z_ci hI (z_runV (As := []) (rest := [.int r]) X hI hl.1 (c_Model_hut l G 693 670 h1 r h2 e2) C_Law_22 rfl q1 (Nat.le_of_ble_eq_true rfl) ⟨(Nat.le_of_ble_eq_true rfl), (Nat.le_of_ble_eq_true rfl), (Nat.le_of_ble_eq_true rfl), (Nat.le_of_ble_eq_true rfl)⟩ rfl d_law_194) (fun H locs hI => ?_)
  exact lv_icmp_eq (tgt := 1118) hx hb d_law_197 (by decide) (fun _ => kk H locs h2 hI I') (fun q => absurd rfl q)
theorem w_line (X : zX p s m #[Value.ref b] meth c "AllHomeLaw" code 4 ret G (bA s.heap.size)) (hX : va_X b L xs s s.heap) (hbl : b < s.heap.size) (hL : L ≤ 3072) (hI : zI G 693 s (bA s.heap.size) H locs h) (hl : lv_has ls 4 [(3, .int (nI (6 * j))), (2, .ref (G.1 670)), (1, .ref (G.1 0)), (0, .ref b)]) (hj : 6 * j + 6 ≤ L) (I : INVx (60 * j) h) (kk : ∀ (H1 : Heap) (locs1 : List Loc) (h1 : zH), zI G 693 s (bA s.heap.size) H1 locs1 h1 → INVx (60 * j + 60) h1 → W p l e room_1 s m #[Value.ref b] below meth c H1 locs1 693 87448 Q (F0 m 1118 ls [])) : W p l e room_1 s m #[Value.ref b] below meth c H locs 693 87448 Q (F0 m 202 ls []) := by
  obtain ⟨hx, hb, hml, hown, hts, -⟩ := id X
  obtain ⟨r, e1, e2⟩ := k_line I (xs (6 * j + 1)) (xs (6 * j + 2))
  have q1 := I.cls.2
  have I' := INVx.mono I (Nat.le_add_right (60 * j) 60)
  refine lv_aload_n hx hb d_law_202 rfl (lv_at hl 2 rfl) ?_
  refine q_arg (k := 1) X hX hbl hI hl (by omega) hL rfl a_203 ?_
  refine q_arg (k := 2) X hX hbl hI hl (by omega) hL rfl a_208 ?_
  refine z_ci hI (z_runV (As := [.int (xs (6 * j + 1)), .int (xs (6 * j + 2))]) (rest := []) X hI hl.1 (c_Home_line l G 693 0 _ _ h r e1) C_Law_23 rfl I.cls.1 (Nat.le_of_ble_eq_true rfl) ⟨(Nat.le_of_ble_eq_true rfl), (Nat.le_of_ble_eq_true rfl), (Nat.le_of_ble_eq_true rfl), (Nat.le_of_ble_eq_true rfl)⟩ rfl d_law_213) (fun H locs hI => ?_)
  refine lv_aload_n hx hb d_law_216 rfl (lv_at hl 1 rfl) ?_
  refine q_arg (k := 1) X hX hbl hI hl (by omega) hL rfl a_217 ?_
  refine q_arg (k := 2) X hX hbl hI hl (by omega) hL rfl a_222 ?_
  refine z_ci hI (z_runV (As := [.int (xs (6 * j + 1)), .int (xs (6 * j + 2))]) (rest := [.int r]) X hI hl.1 (c_Model_line l G 693 670 _ _ h r e2) C_Law_26 rfl q1 (Nat.le_of_ble_eq_true rfl) ⟨(Nat.le_of_ble_eq_true rfl), (Nat.le_of_ble_eq_true rfl), (Nat.le_of_ble_eq_true rfl), (Nat.le_of_ble_eq_true rfl)⟩ rfl d_law_227) (fun H locs hI => ?_)
  exact lv_icmp_eq (tgt := 1118) hx hb d_law_230 (by decide) (fun _ => kk H locs h hI I') (fun q => absurd rfl q)
theorem w_goesTo (X : zX p s m #[Value.ref b] meth c "AllHomeLaw" code 4 ret G (bA s.heap.size)) (hX : va_X b L xs s s.heap) (hbl : b < s.heap.size) (hL : L ≤ 3072) (hI : zI G 693 s (bA s.heap.size) H locs h) (hl : lv_has ls 4 [(3, .int (nI (6 * j))), (2, .ref (G.1 670)), (1, .ref (G.1 0)), (0, .ref b)]) (hj : 6 * j + 6 ≤ L) (I : INVx (60 * j) h) (kk : ∀ (H1 : Heap) (locs1 : List Loc) (h1 : zH), zI G 693 s (bA s.heap.size) H1 locs1 h1 → INVx (60 * j + 60) h1 → W p l e room_1 s m #[Value.ref b] below meth c H1 locs1 693 87448 Q (F0 m 1118 ls [])) : W p l e room_1 s m #[Value.ref b] below meth c H locs 693 87448 Q (F0 m 235 ls []) := by
  obtain ⟨hx, hb, hml, hown, hts, -⟩ := id X
  obtain ⟨r, e1, e2⟩ := k_goesTo I (xs (6 * j + 1)) (xs (6 * j + 2)) (xs (6 * j + 3))
  have q1 := I.cls.2
  have I' := INVx.mono I (Nat.le_add_right (60 * j) 60)
  refine lv_aload_n hx hb d_law_235 rfl (lv_at hl 2 rfl) ?_
  refine q_arg (k := 1) X hX hbl hI hl (by omega) hL rfl a_236 ?_
  refine q_arg (k := 2) X hX hbl hI hl (by omega) hL rfl a_241 ?_
  refine q_arg (k := 3) X hX hbl hI hl (by omega) hL rfl a_246 ?_
  refine z_ci hI (z_runV (As := [.int (xs (6 * j + 1)), .int (xs (6 * j + 2)), .int (xs (6 * j + 3))]) (rest := []) X hI hl.1 (c_Home_goesTo l G 693 0 _ _ _ h r e1) C_Law_27 rfl I.cls.1 (Nat.le_of_ble_eq_true rfl) ⟨(Nat.le_of_ble_eq_true rfl), (Nat.le_of_ble_eq_true rfl), (Nat.le_of_ble_eq_true rfl), (Nat.le_of_ble_eq_true rfl)⟩ rfl d_law_251) (fun H locs hI => ?_)
  refine lv_aload_n hx hb d_law_254 rfl (lv_at hl 1 rfl) ?_
  refine q_arg (k := 1) X hX hbl hI hl (by omega) hL rfl a_255 ?_
  refine q_arg (k := 2) X hX hbl hI hl (by omega) hL rfl a_260 ?_
  refine q_arg (k := 3) X hX hbl hI hl (by omega) hL rfl a_265 ?_
  refine z_ci hI (z_runV (As := [.int (xs (6 * j + 1)), .int (xs (6 * j + 2)), .int (xs (6 * j + 3))]) (rest := [.int r]) X hI hl.1 (c_Model_goesTo l G 693 670 _ _ _ h r e2) C_Law_31 rfl q1 (Nat.le_of_ble_eq_true rfl) ⟨(Nat.le_of_ble_eq_true rfl), (Nat.le_of_ble_eq_true rfl), (Nat.le_of_ble_eq_true rfl), (Nat.le_of_ble_eq_true rfl)⟩ rfl d_law_270) (fun H locs hI => ?_)
  exact lv_icmp_eq (tgt := 1118) hx hb d_law_273 (by decide) (fun _ => kk H locs h hI I') (fun q => absurd rfl q)
theorem w_way (X : zX p s m #[Value.ref b] meth c "AllHomeLaw" code 4 ret G (bA s.heap.size)) (hX : va_X b L xs s s.heap) (hbl : b < s.heap.size) (hL : L ≤ 3072) (hI : zI G 693 s (bA s.heap.size) H locs h) (hl : lv_has ls 4 [(3, .int (nI (6 * j))), (2, .ref (G.1 670)), (1, .ref (G.1 0)), (0, .ref b)]) (hj : 6 * j + 6 ≤ L) (I : INVx (60 * j) h) (kk : ∀ (H1 : Heap) (locs1 : List Loc) (h1 : zH), zI G 693 s (bA s.heap.size) H1 locs1 h1 → INVx (60 * j + 60) h1 → W p l e room_1 s m #[Value.ref b] below meth c H1 locs1 693 87448 Q (F0 m 1118 ls [])) : W p l e room_1 s m #[Value.ref b] below meth c H locs 693 87448 Q (F0 m 278 ls []) := by
  obtain ⟨hx, hb, hml, hown, hts, -⟩ := id X
  obtain ⟨r, h1, h2, e1, e2, I'⟩ := k_way I (by omega) (xs (6 * j + 1))
  have q1 : zcls h1 670 = 7 := (ck_way _ _ e1 670).trans I.cls.2
  refine lv_aload_n hx hb d_law_278 rfl (lv_at hl 2 rfl) ?_
  refine q_arg (k := 1) X hX hbl hI hl (by omega) hL rfl a_279 ?_
  refine z_ci hI (z_runV (As := [.int (xs (6 * j + 1))]) (rest := []) X hI hl.1 (c_Home_way l G 693 0 _ h r h1 e1) C_Law_32 rfl I.cls.1 (Nat.le_of_ble_eq_true rfl) ⟨(Nat.le_of_ble_eq_true rfl), (Nat.le_of_ble_eq_true rfl), (Nat.le_of_ble_eq_true rfl), (Nat.le_of_ble_eq_true rfl)⟩ rfl d_law_284) (fun H locs hI => ?_)
  refine lv_aload_n hx hb d_law_287 rfl (lv_at hl 1 rfl) ?_
  refine q_arg (k := 1) X hX hbl hI hl (by omega) hL rfl a_288 ?_
  refine z_ci hI (z_runV (As := [.int (xs (6 * j + 1))]) (rest := [.int r]) X hI hl.1 (c_Model_way l G 693 670 _ h1 r h2 e2) C_Law_36 rfl q1 (Nat.le_of_ble_eq_true rfl) ⟨(Nat.le_of_ble_eq_true rfl), (Nat.le_of_ble_eq_true rfl), (Nat.le_of_ble_eq_true rfl), (Nat.le_of_ble_eq_true rfl)⟩ rfl d_law_293) (fun H locs hI => ?_)
  exact lv_icmp_eq (tgt := 1118) hx hb d_law_296 (by decide) (fun _ => kk H locs h2 hI I') (fun q => absurd rfl q)
theorem w_kindOf (X : zX p s m #[Value.ref b] meth c "AllHomeLaw" code 4 ret G (bA s.heap.size)) (hX : va_X b L xs s s.heap) (hbl : b < s.heap.size) (hL : L ≤ 3072) (hI : zI G 693 s (bA s.heap.size) H locs h) (hl : lv_has ls 4 [(3, .int (nI (6 * j))), (2, .ref (G.1 670)), (1, .ref (G.1 0)), (0, .ref b)]) (hj : 6 * j + 6 ≤ L) (I : INVx (60 * j) h) (kk : ∀ (H1 : Heap) (locs1 : List Loc) (h1 : zH), zI G 693 s (bA s.heap.size) H1 locs1 h1 → INVx (60 * j + 60) h1 → W p l e room_1 s m #[Value.ref b] below meth c H1 locs1 693 87448 Q (F0 m 1118 ls [])) : W p l e room_1 s m #[Value.ref b] below meth c H locs 693 87448 Q (F0 m 301 ls []) := by
  obtain ⟨hx, hb, hml, hown, hts, -⟩ := id X
  obtain ⟨r, e1, e2⟩ := k_kindOf I (xs (6 * j + 1))
  have q1 := I.cls.2
  have I' := INVx.mono I (Nat.le_add_right (60 * j) 60)
  refine lv_aload_n hx hb d_law_301 rfl (lv_at hl 2 rfl) ?_
  refine q_arg (k := 1) X hX hbl hI hl (by omega) hL rfl a_302 ?_
  refine z_ci hI (z_runV (As := [.int (xs (6 * j + 1))]) (rest := []) X hI hl.1 (c_Home_kindOf l G 693 0 _ h r e1) C_Law_37 rfl I.cls.1 (Nat.le_of_ble_eq_true rfl) ⟨(Nat.le_of_ble_eq_true rfl), (Nat.le_of_ble_eq_true rfl), (Nat.le_of_ble_eq_true rfl), (Nat.le_of_ble_eq_true rfl)⟩ rfl d_law_307) (fun H locs hI => ?_)
  refine lv_aload_n hx hb d_law_310 rfl (lv_at hl 1 rfl) ?_
  refine q_arg (k := 1) X hX hbl hI hl (by omega) hL rfl a_311 ?_
  refine z_ci hI (z_runV (As := [.int (xs (6 * j + 1))]) (rest := [.int r]) X hI hl.1 (c_Model_kindOf l G 693 670 _ h r e2) C_Law_40 rfl q1 (Nat.le_of_ble_eq_true rfl) ⟨(Nat.le_of_ble_eq_true rfl), (Nat.le_of_ble_eq_true rfl), (Nat.le_of_ble_eq_true rfl), (Nat.le_of_ble_eq_true rfl)⟩ rfl d_law_316) (fun H locs hI => ?_)
  exact lv_icmp_eq (tgt := 1118) hx hb d_law_319 (by decide) (fun _ => kk H locs h hI I') (fun q => absurd rfl q)
theorem w_run (X : zX p s m #[Value.ref b] meth c "AllHomeLaw" code 4 ret G (bA s.heap.size)) (hX : va_X b L xs s s.heap) (hbl : b < s.heap.size) (hL : L ≤ 3072) (hI : zI G 693 s (bA s.heap.size) H locs h) (hl : lv_has ls 4 [(3, .int (nI (6 * j))), (2, .ref (G.1 670)), (1, .ref (G.1 0)), (0, .ref b)]) (hj : 6 * j + 6 ≤ L) (I : INVx (60 * j) h) (kk : ∀ (H1 : Heap) (locs1 : List Loc) (h1 : zH), zI G 693 s (bA s.heap.size) H1 locs1 h1 → INVx (60 * j + 60) h1 → W p l e room_1 s m #[Value.ref b] below meth c H1 locs1 693 87448 Q (F0 m 1118 ls [])) : W p l e room_1 s m #[Value.ref b] below meth c H locs 693 87448 Q (F0 m 324 ls []) := by
  obtain ⟨hx, hb, hml, hown, hts, -⟩ := id X
  obtain ⟨r, h1, h2, e1, e2, I'⟩ := k_run I (by omega) (xs (6 * j + 1))
  have q1 : zcls h1 670 = 7 := zc_cv (by unfold m_Model_run at e2; exact e2)
  refine lv_aload_n hx hb d_law_324 rfl (lv_at hl 2 rfl) ?_
  refine q_arg (k := 1) X hX hbl hI hl (by omega) hL rfl a_325 ?_
  refine z_ci hI (z_runV (As := [.int (xs (6 * j + 1))]) (rest := []) X hI hl.1 (c_Home_run l G 693 0 _ h r h1 e1) C_Law_41 rfl I.cls.1 (Nat.le_of_ble_eq_true rfl) ⟨(Nat.le_of_ble_eq_true rfl), (Nat.le_of_ble_eq_true rfl), (Nat.le_of_ble_eq_true rfl), (Nat.le_of_ble_eq_true rfl)⟩ rfl d_law_330) (fun H locs hI => ?_)
  refine lv_aload_n hx hb d_law_333 rfl (lv_at hl 1 rfl) ?_
  refine q_arg (k := 1) X hX hbl hI hl (by omega) hL rfl a_334 ?_
  refine z_ci hI (z_runV (As := [.int (xs (6 * j + 1))]) (rest := [.int r]) X hI hl.1 (c_Model_run l G 693 670 _ h1 r h2 e2) C_Law_44 rfl q1 (Nat.le_of_ble_eq_true rfl) ⟨(Nat.le_of_ble_eq_true rfl), (Nat.le_of_ble_eq_true rfl), (Nat.le_of_ble_eq_true rfl), (Nat.le_of_ble_eq_true rfl)⟩ rfl d_law_339) (fun H locs hI => ?_)
  exact lv_icmp_eq (tgt := 1118) hx hb d_law_342 (by decide) (fun _ => kk H locs h2 hI I') (fun q => absurd rfl q)
theorem w_step (X : zX p s m #[Value.ref b] meth c "AllHomeLaw" code 4 ret G (bA s.heap.size)) (hX : va_X b L xs s s.heap) (hbl : b < s.heap.size) (hL : L ≤ 3072) (hI : zI G 693 s (bA s.heap.size) H locs h) (hl : lv_has ls 4 [(3, .int (nI (6 * j))), (2, .ref (G.1 670)), (1, .ref (G.1 0)), (0, .ref b)]) (hj : 6 * j + 6 ≤ L) (I : INVx (60 * j) h) (kk : ∀ (H1 : Heap) (locs1 : List Loc) (h1 : zH), zI G 693 s (bA s.heap.size) H1 locs1 h1 → INVx (60 * j + 60) h1 → W p l e room_1 s m #[Value.ref b] below meth c H1 locs1 693 87448 Q (F0 m 1118 ls [])) : W p l e room_1 s m #[Value.ref b] below meth c H locs 693 87448 Q (F0 m 347 ls []) := by
  obtain ⟨hx, hb, hml, hown, hts, -⟩ := id X
  obtain ⟨r, h1, h2, e1, e2, I'⟩ := k_step I (by omega) (xs (6 * j + 1)) (xs (6 * j + 2)) (xs (6 * j + 3))
  have q1 : zcls h1 670 = 7 := zc_cv (by unfold m_Model_step at e2; exact e2)
  refine lv_aload_n hx hb d_law_347 rfl (lv_at hl 2 rfl) ?_
  refine q_arg (k := 1) X hX hbl hI hl (by omega) hL rfl a_348 ?_
  refine q_arg (k := 2) X hX hbl hI hl (by omega) hL rfl a_353 ?_
  refine q_arg (k := 3) X hX hbl hI hl (by omega) hL rfl a_358 ?_
  refine z_ci hI (z_runV (As := [.int (xs (6 * j + 1)), .int (xs (6 * j + 2)), .int (xs (6 * j + 3))]) (rest := []) X hI hl.1 (c_Home_step l G 693 0 _ _ _ h r h1 e1) C_Law_45 rfl I.cls.1 (Nat.le_of_ble_eq_true rfl) ⟨(Nat.le_of_ble_eq_true rfl), (Nat.le_of_ble_eq_true rfl), (Nat.le_of_ble_eq_true rfl), (Nat.le_of_ble_eq_true rfl)⟩ rfl d_law_363) (fun H locs hI => ?_)
  refine lv_aload_n hx hb d_law_366 rfl (lv_at hl 1 rfl) ?_
  refine q_arg (k := 1) X hX hbl hI hl (by omega) hL rfl a_367 ?_
  refine q_arg (k := 2) X hX hbl hI hl (by omega) hL rfl a_372 ?_
  refine q_arg (k := 3) X hX hbl hI hl (by omega) hL rfl a_377 ?_
  refine z_ci hI (z_runV (As := [.int (xs (6 * j + 1)), .int (xs (6 * j + 2)), .int (xs (6 * j + 3))]) (rest := [.int r]) X hI hl.1 (c_Model_step l G 693 670 _ _ _ h1 r h2 e2) C_Law_48 rfl q1 (Nat.le_of_ble_eq_true rfl) ⟨(Nat.le_of_ble_eq_true rfl), (Nat.le_of_ble_eq_true rfl), (Nat.le_of_ble_eq_true rfl), (Nat.le_of_ble_eq_true rfl)⟩ rfl d_law_382) (fun H locs hI => ?_)
  exact lv_icmp_eq (tgt := 1118) hx hb d_law_385 (by decide) (fun _ => kk H locs h2 hI I') (fun q => absurd rfl q)
theorem w_steps (X : zX p s m #[Value.ref b] meth c "AllHomeLaw" code 4 ret G (bA s.heap.size)) (hX : va_X b L xs s s.heap) (hbl : b < s.heap.size) (hL : L ≤ 3072) (hI : zI G 693 s (bA s.heap.size) H locs h) (hl : lv_has ls 4 [(3, .int (nI (6 * j))), (2, .ref (G.1 670)), (1, .ref (G.1 0)), (0, .ref b)]) (hj : 6 * j + 6 ≤ L) (I : INVx (60 * j) h) (kk : ∀ (H1 : Heap) (locs1 : List Loc) (h1 : zH), zI G 693 s (bA s.heap.size) H1 locs1 h1 → INVx (60 * j + 60) h1 → W p l e room_1 s m #[Value.ref b] below meth c H1 locs1 693 87448 Q (F0 m 1118 ls [])) : W p l e room_1 s m #[Value.ref b] below meth c H locs 693 87448 Q (F0 m 390 ls []) := by
  obtain ⟨hx, hb, hml, hown, hts, -⟩ := id X
  obtain ⟨r, h1, h2, e1, e2, I'⟩ := k_steps I (by omega) (xs (6 * j + 1)) (xs (6 * j + 2)) (xs (6 * j + 3)) (xs (6 * j + 4))
  have q1 : zcls h1 670 = 7 := zc_cv (by unfold m_Model_steps at e2; exact e2)
  refine lv_aload_n hx hb d_law_390 rfl (lv_at hl 2 rfl) ?_
  refine q_arg (k := 1) X hX hbl hI hl (by omega) hL rfl a_391 ?_
  refine q_arg (k := 2) X hX hbl hI hl (by omega) hL rfl a_396 ?_
  refine q_arg (k := 3) X hX hbl hI hl (by omega) hL rfl a_401 ?_
  refine q_arg (k := 4) X hX hbl hI hl (by omega) hL rfl a_406 ?_
  refine z_ci hI (z_runV (As := [.int (xs (6 * j + 1)), .int (xs (6 * j + 2)), .int (xs (6 * j + 3)), .int (xs (6 * j + 4))]) (rest := []) X hI hl.1 (c_Home_steps l G 693 0 _ _ _ _ h r h1 e1) C_Law_49 rfl I.cls.1 (Nat.le_of_ble_eq_true rfl) ⟨(Nat.le_of_ble_eq_true rfl), (Nat.le_of_ble_eq_true rfl), (Nat.le_of_ble_eq_true rfl), (Nat.le_of_ble_eq_true rfl)⟩ rfl d_law_411) (fun H locs hI => ?_)
  refine lv_aload_n hx hb d_law_414 rfl (lv_at hl 1 rfl) ?_
  refine q_arg (k := 1) X hX hbl hI hl (by omega) hL rfl a_415 ?_
  refine q_arg (k := 2) X hX hbl hI hl (by omega) hL rfl a_420 ?_
  refine q_arg (k := 3) X hX hbl hI hl (by omega) hL rfl a_425 ?_
  refine q_arg (k := 4) X hX hbl hI hl (by omega) hL rfl a_430 ?_
  refine z_ci hI (z_runV (As := [.int (xs (6 * j + 1)), .int (xs (6 * j + 2)), .int (xs (6 * j + 3)), .int (xs (6 * j + 4))]) (rest := [.int r]) X hI hl.1 (c_Model_steps l G 693 670 _ _ _ _ h1 r h2 e2) C_Law_53 rfl q1 (Nat.le_of_ble_eq_true rfl) ⟨(Nat.le_of_ble_eq_true rfl), (Nat.le_of_ble_eq_true rfl), (Nat.le_of_ble_eq_true rfl), (Nat.le_of_ble_eq_true rfl)⟩ rfl d_law_435) (fun H locs hI => ?_)
  exact lv_icmp_eq (tgt := 1118) hx hb d_law_438 (by decide) (fun _ => kk H locs h2 hI I') (fun q => absurd rfl q)
theorem w_ofRun (X : zX p s m #[Value.ref b] meth c "AllHomeLaw" code 4 ret G (bA s.heap.size)) (hX : va_X b L xs s s.heap) (hbl : b < s.heap.size) (hL : L ≤ 3072) (hI : zI G 693 s (bA s.heap.size) H locs h) (hl : lv_has ls 4 [(3, .int (nI (6 * j))), (2, .ref (G.1 670)), (1, .ref (G.1 0)), (0, .ref b)]) (hj : 6 * j + 6 ≤ L) (I : INVx (60 * j) h) (kk : ∀ (H1 : Heap) (locs1 : List Loc) (h1 : zH), zI G 693 s (bA s.heap.size) H1 locs1 h1 → INVx (60 * j + 60) h1 → W p l e room_1 s m #[Value.ref b] below meth c H1 locs1 693 87448 Q (F0 m 1118 ls [])) : W p l e room_1 s m #[Value.ref b] below meth c H locs 693 87448 Q (F0 m 443 ls []) := by
  obtain ⟨hx, hb, hml, hown, hts, -⟩ := id X
  obtain ⟨r, h2, e1, e2, I'⟩ := k_ofRun I (xs (6 * j + 1)) (xs (6 * j + 2))
  have q1 := I.cls.2
  refine lv_aload_n hx hb d_law_443 rfl (lv_at hl 2 rfl) ?_
  refine q_arg (k := 1) X hX hbl hI hl (by omega) hL rfl a_444 ?_
  refine q_arg (k := 2) X hX hbl hI hl (by omega) hL rfl a_449 ?_
  refine z_ci hI (z_runV (As := [.int (xs (6 * j + 1)), .int (xs (6 * j + 2))]) (rest := []) X hI hl.1 (c_Home_ofRun l G 693 0 _ _ h r e1) C_Law_54 rfl I.cls.1 (Nat.le_of_ble_eq_true rfl) ⟨(Nat.le_of_ble_eq_true rfl), (Nat.le_of_ble_eq_true rfl), (Nat.le_of_ble_eq_true rfl), (Nat.le_of_ble_eq_true rfl)⟩ rfl d_law_454) (fun H locs hI => ?_)
  refine lv_aload_n hx hb d_law_457 rfl (lv_at hl 1 rfl) ?_
  refine q_arg (k := 1) X hX hbl hI hl (by omega) hL rfl a_458 ?_
  refine q_arg (k := 2) X hX hbl hI hl (by omega) hL rfl a_463 ?_
  refine z_ci hI (z_runV (As := [.int (xs (6 * j + 1)), .int (xs (6 * j + 2))]) (rest := [.int r]) X hI hl.1 (c_Model_ofRun l G 693 670 _ _ h r h2 e2) C_Law_57 rfl q1 (Nat.le_of_ble_eq_true rfl) ⟨(Nat.le_of_ble_eq_true rfl), (Nat.le_of_ble_eq_true rfl), (Nat.le_of_ble_eq_true rfl), (Nat.le_of_ble_eq_true rfl)⟩ rfl d_law_468) (fun H locs hI => ?_)
  exact lv_icmp_eq (tgt := 1118) hx hb d_law_471 (by decide) (fun _ => kk H locs h2 hI I') (fun q => absurd rfl q)
theorem w_ofHut (X : zX p s m #[Value.ref b] meth c "AllHomeLaw" code 4 ret G (bA s.heap.size)) (hX : va_X b L xs s s.heap) (hbl : b < s.heap.size) (hL : L ≤ 3072) (hI : zI G 693 s (bA s.heap.size) H locs h) (hl : lv_has ls 4 [(3, .int (nI (6 * j))), (2, .ref (G.1 670)), (1, .ref (G.1 0)), (0, .ref b)]) (hj : 6 * j + 6 ≤ L) (I : INVx (60 * j) h) (kk : ∀ (H1 : Heap) (locs1 : List Loc) (h1 : zH), zI G 693 s (bA s.heap.size) H1 locs1 h1 → INVx (60 * j + 60) h1 → W p l e room_1 s m #[Value.ref b] below meth c H1 locs1 693 87448 Q (F0 m 1118 ls [])) : W p l e room_1 s m #[Value.ref b] below meth c H locs 693 87448 Q (F0 m 476 ls []) := by
  obtain ⟨hx, hb, hml, hown, hts, -⟩ := id X
  obtain ⟨r, h2, e1, e2, I'⟩ := k_ofHut I (xs (6 * j + 1)) (xs (6 * j + 2)) (xs (6 * j + 3))
  have q1 := I.cls.2
  refine lv_aload_n hx hb d_law_476 rfl (lv_at hl 2 rfl) ?_
  refine q_arg (k := 1) X hX hbl hI hl (by omega) hL rfl a_477 ?_
  refine q_arg (k := 2) X hX hbl hI hl (by omega) hL rfl a_482 ?_
  refine q_arg (k := 3) X hX hbl hI hl (by omega) hL rfl a_487 ?_
  refine z_ci hI (z_runV (As := [.int (xs (6 * j + 1)), .int (xs (6 * j + 2)), .int (xs (6 * j + 3))]) (rest := []) X hI hl.1 (c_Home_ofHut l G 693 0 _ _ _ h r e1) C_Law_58 rfl I.cls.1 (Nat.le_of_ble_eq_true rfl) ⟨(Nat.le_of_ble_eq_true rfl), (Nat.le_of_ble_eq_true rfl), (Nat.le_of_ble_eq_true rfl), (Nat.le_of_ble_eq_true rfl)⟩ rfl d_law_492) (fun H locs hI => ?_)
  refine lv_aload_n hx hb d_law_495 rfl (lv_at hl 1 rfl) ?_
  refine q_arg (k := 1) X hX hbl hI hl (by omega) hL rfl a_496 ?_
  refine q_arg (k := 2) X hX hbl hI hl (by omega) hL rfl a_501 ?_
  refine q_arg (k := 3) X hX hbl hI hl (by omega) hL rfl a_506 ?_
  refine z_ci hI (z_runV (As := [.int (xs (6 * j + 1)), .int (xs (6 * j + 2)), .int (xs (6 * j + 3))]) (rest := [.int r]) X hI hl.1 (c_Model_ofHut l G 693 670 _ _ _ h r h2 e2) C_Law_61 rfl q1 (Nat.le_of_ble_eq_true rfl) ⟨(Nat.le_of_ble_eq_true rfl), (Nat.le_of_ble_eq_true rfl), (Nat.le_of_ble_eq_true rfl), (Nat.le_of_ble_eq_true rfl)⟩ rfl d_law_511) (fun H locs hI => ?_)
  exact lv_icmp_eq (tgt := 1118) hx hb d_law_514 (by decide) (fun _ => kk H locs h2 hI I') (fun q => absurd rfl q)
theorem w_word (X : zX p s m #[Value.ref b] meth c "AllHomeLaw" code 4 ret G (bA s.heap.size)) (hX : va_X b L xs s s.heap) (hbl : b < s.heap.size) (hL : L ≤ 3072) (hI : zI G 693 s (bA s.heap.size) H locs h) (hl : lv_has ls 4 [(3, .int (nI (6 * j))), (2, .ref (G.1 670)), (1, .ref (G.1 0)), (0, .ref b)]) (hj : 6 * j + 6 ≤ L) (I : INVx (60 * j) h) (kk : ∀ (H1 : Heap) (locs1 : List Loc) (h1 : zH), zI G 693 s (bA s.heap.size) H1 locs1 h1 → INVx (60 * j + 60) h1 → W p l e room_1 s m #[Value.ref b] below meth c H1 locs1 693 87448 Q (F0 m 1118 ls [])) : W p l e room_1 s m #[Value.ref b] below meth c H locs 693 87448 Q (F0 m 519 ls []) := by
  obtain ⟨hx, hb, hml, hown, hts, -⟩ := id X
  obtain ⟨r, h2, e1, e2, I'⟩ := k_word I (xs (6 * j + 1)) (xs (6 * j + 2)) (xs (6 * j + 3))
  have q1 := I.cls.2
  refine lv_aload_n hx hb d_law_519 rfl (lv_at hl 2 rfl) ?_
  refine q_arg (k := 1) X hX hbl hI hl (by omega) hL rfl a_520 ?_
  refine q_arg (k := 2) X hX hbl hI hl (by omega) hL rfl a_525 ?_
  refine q_arg (k := 3) X hX hbl hI hl (by omega) hL rfl a_530 ?_
  refine z_ci hI (z_runV (As := [.int (xs (6 * j + 1)), .int (xs (6 * j + 2)), .int (xs (6 * j + 3))]) (rest := []) X hI hl.1 (c_Home_word l G 693 0 _ _ _ h r e1) C_Law_62 rfl I.cls.1 (Nat.le_of_ble_eq_true rfl) ⟨(Nat.le_of_ble_eq_true rfl), (Nat.le_of_ble_eq_true rfl), (Nat.le_of_ble_eq_true rfl), (Nat.le_of_ble_eq_true rfl)⟩ rfl d_law_535) (fun H locs hI => ?_)
  refine lv_aload_n hx hb d_law_538 rfl (lv_at hl 1 rfl) ?_
  refine q_arg (k := 1) X hX hbl hI hl (by omega) hL rfl a_539 ?_
  refine q_arg (k := 2) X hX hbl hI hl (by omega) hL rfl a_544 ?_
  refine q_arg (k := 3) X hX hbl hI hl (by omega) hL rfl a_549 ?_
  refine z_ci hI (z_runV (As := [.int (xs (6 * j + 1)), .int (xs (6 * j + 2)), .int (xs (6 * j + 3))]) (rest := [.int r]) X hI hl.1 (c_Model_word l G 693 670 _ _ _ h r h2 e2) C_Law_65 rfl q1 (Nat.le_of_ble_eq_true rfl) ⟨(Nat.le_of_ble_eq_true rfl), (Nat.le_of_ble_eq_true rfl), (Nat.le_of_ble_eq_true rfl), (Nat.le_of_ble_eq_true rfl)⟩ rfl d_law_554) (fun H locs hI => ?_)
  exact lv_icmp_eq (tgt := 1118) hx hb d_law_557 (by decide) (fun _ => kk H locs h2 hI I') (fun q => absurd rfl q)
theorem w_note (X : zX p s m #[Value.ref b] meth c "AllHomeLaw" code 4 ret G (bA s.heap.size)) (hX : va_X b L xs s s.heap) (hbl : b < s.heap.size) (hL : L ≤ 3072) (hI : zI G 693 s (bA s.heap.size) H locs h) (hl : lv_has ls 4 [(3, .int (nI (6 * j))), (2, .ref (G.1 670)), (1, .ref (G.1 0)), (0, .ref b)]) (hj : 6 * j + 6 ≤ L) (I : INVx (60 * j) h) (kk : ∀ (H1 : Heap) (locs1 : List Loc) (h1 : zH), zI G 693 s (bA s.heap.size) H1 locs1 h1 → INVx (60 * j + 60) h1 → W p l e room_1 s m #[Value.ref b] below meth c H1 locs1 693 87448 Q (F0 m 1118 ls [])) : W p l e room_1 s m #[Value.ref b] below meth c H locs 693 87448 Q (F0 m 562 ls []) := by
  obtain ⟨hx, hb, hml, hown, hts, -⟩ := id X
  obtain ⟨r, h2, e1, e2, I'⟩ := k_note I (xs (6 * j + 1)) (xs (6 * j + 2)) (xs (6 * j + 3))
  have q1 := I.cls.2
  refine lv_aload_n hx hb d_law_562 rfl (lv_at hl 2 rfl) ?_
  refine q_arg (k := 1) X hX hbl hI hl (by omega) hL rfl a_563 ?_
  refine q_arg (k := 2) X hX hbl hI hl (by omega) hL rfl a_568 ?_
  refine q_arg (k := 3) X hX hbl hI hl (by omega) hL rfl a_573 ?_
  refine z_ci hI (z_runV (As := [.int (xs (6 * j + 1)), .int (xs (6 * j + 2)), .int (xs (6 * j + 3))]) (rest := []) X hI hl.1 (c_Home_note l G 693 0 _ _ _ h r e1) C_Law_66 rfl I.cls.1 (Nat.le_of_ble_eq_true rfl) ⟨(Nat.le_of_ble_eq_true rfl), (Nat.le_of_ble_eq_true rfl), (Nat.le_of_ble_eq_true rfl), (Nat.le_of_ble_eq_true rfl)⟩ rfl d_law_578) (fun H locs hI => ?_)
  refine lv_aload_n hx hb d_law_581 rfl (lv_at hl 1 rfl) ?_
  refine q_arg (k := 1) X hX hbl hI hl (by omega) hL rfl a_582 ?_
  refine q_arg (k := 2) X hX hbl hI hl (by omega) hL rfl a_587 ?_
  refine q_arg (k := 3) X hX hbl hI hl (by omega) hL rfl a_592 ?_
  refine z_ci hI (z_runV (As := [.int (xs (6 * j + 1)), .int (xs (6 * j + 2)), .int (xs (6 * j + 3))]) (rest := [.int r]) X hI hl.1 (c_Model_note l G 693 670 _ _ _ h r h2 e2) C_Law_69 rfl q1 (Nat.le_of_ble_eq_true rfl) ⟨(Nat.le_of_ble_eq_true rfl), (Nat.le_of_ble_eq_true rfl), (Nat.le_of_ble_eq_true rfl), (Nat.le_of_ble_eq_true rfl)⟩ rfl d_law_597) (fun H locs hI => ?_)
  exact lv_icmp_eq (tgt := 1118) hx hb d_law_600 (by decide) (fun _ => kk H locs h2 hI I') (fun q => absurd rfl q)
theorem w_total (X : zX p s m #[Value.ref b] meth c "AllHomeLaw" code 4 ret G (bA s.heap.size)) (hX : va_X b L xs s s.heap) (hbl : b < s.heap.size) (hL : L ≤ 3072) (hI : zI G 693 s (bA s.heap.size) H locs h) (hl : lv_has ls 4 [(3, .int (nI (6 * j))), (2, .ref (G.1 670)), (1, .ref (G.1 0)), (0, .ref b)]) (hj : 6 * j + 6 ≤ L) (I : INVx (60 * j) h) (kk : ∀ (H1 : Heap) (locs1 : List Loc) (h1 : zH), zI G 693 s (bA s.heap.size) H1 locs1 h1 → INVx (60 * j + 60) h1 → W p l e room_1 s m #[Value.ref b] below meth c H1 locs1 693 87448 Q (F0 m 1118 ls [])) : W p l e room_1 s m #[Value.ref b] below meth c H locs 693 87448 Q (F0 m 605 ls []) := by
  obtain ⟨hx, hb, hml, hown, hts, -⟩ := id X
  obtain ⟨r, h2, e1, e2, I'⟩ := k_total I (xs (6 * j + 1))
  have q1 := I.cls.2
  refine lv_aload_n hx hb d_law_605 rfl (lv_at hl 2 rfl) ?_
  refine q_arg (k := 1) X hX hbl hI hl (by omega) hL rfl a_606 ?_
  refine z_ci hI (z_runV (As := [.int (xs (6 * j + 1))]) (rest := []) X hI hl.1 (c_Home_total l G 693 0 _ h r e1) C_Law_70 rfl I.cls.1 (Nat.le_of_ble_eq_true rfl) ⟨(Nat.le_of_ble_eq_true rfl), (Nat.le_of_ble_eq_true rfl), (Nat.le_of_ble_eq_true rfl), (Nat.le_of_ble_eq_true rfl)⟩ rfl d_law_611) (fun H locs hI => ?_)
  refine lv_aload_n hx hb d_law_614 rfl (lv_at hl 1 rfl) ?_
  refine q_arg (k := 1) X hX hbl hI hl (by omega) hL rfl a_615 ?_
  refine z_ci hI (z_runV (As := [.int (xs (6 * j + 1))]) (rest := [.int r]) X hI hl.1 (c_Model_total l G 693 670 _ h r h2 e2) C_Law_73 rfl q1 (Nat.le_of_ble_eq_true rfl) ⟨(Nat.le_of_ble_eq_true rfl), (Nat.le_of_ble_eq_true rfl), (Nat.le_of_ble_eq_true rfl), (Nat.le_of_ble_eq_true rfl)⟩ rfl d_law_620) (fun H locs hI => ?_)
  exact lv_icmp_eq (tgt := 1118) hx hb d_law_623 (by decide) (fun _ => kk H locs h2 hI I') (fun q => absurd rfl q)
theorem w_states (X : zX p s m #[Value.ref b] meth c "AllHomeLaw" code 4 ret G (bA s.heap.size)) (hX : va_X b L xs s s.heap) (hbl : b < s.heap.size) (hL : L ≤ 3072) (hI : zI G 693 s (bA s.heap.size) H locs h) (hl : lv_has ls 4 [(3, .int (nI (6 * j))), (2, .ref (G.1 670)), (1, .ref (G.1 0)), (0, .ref b)]) (hj : 6 * j + 6 ≤ L) (I : INVx (60 * j) h) (kk : ∀ (H1 : Heap) (locs1 : List Loc) (h1 : zH), zI G 693 s (bA s.heap.size) H1 locs1 h1 → INVx (60 * j + 60) h1 → W p l e room_1 s m #[Value.ref b] below meth c H1 locs1 693 87448 Q (F0 m 1118 ls [])) : W p l e room_1 s m #[Value.ref b] below meth c H locs 693 87448 Q (F0 m 628 ls []) := by
  obtain ⟨hx, hb, hml, hown, hts, -⟩ := id X
  obtain ⟨r, h1, h2, e1, e2, I'⟩ := k_states I (by omega) (xs (6 * j + 1))
  have q1 : zcls h1 670 = 7 := zc_b2 (by unfold m_Model_states at e2; exact e2)
  refine lv_aload_n hx hb d_law_628 rfl (lv_at hl 2 rfl) ?_
  refine q_arg (k := 1) X hX hbl hI hl (by omega) hL rfl a_629 ?_
  refine z_ci hI (z_runV (As := [.int (xs (6 * j + 1))]) (rest := []) X hI hl.1 (c_Home_states l G 693 0 _ h r h1 e1) C_Law_74 rfl I.cls.1 (Nat.le_of_ble_eq_true rfl) ⟨(Nat.le_of_ble_eq_true rfl), (Nat.le_of_ble_eq_true rfl), (Nat.le_of_ble_eq_true rfl), (Nat.le_of_ble_eq_true rfl)⟩ rfl d_law_634) (fun H locs hI => ?_)
  refine lv_aload_n hx hb d_law_637 rfl (lv_at hl 1 rfl) ?_
  refine q_arg (k := 1) X hX hbl hI hl (by omega) hL rfl a_638 ?_
  refine z_ci hI (z_runV (As := [.int (xs (6 * j + 1))]) (rest := [.int r]) X hI hl.1 (c_Model_states l G 693 670 _ h1 r h2 e2) C_Law_77 rfl q1 (Nat.le_of_ble_eq_true rfl) ⟨(Nat.le_of_ble_eq_true rfl), (Nat.le_of_ble_eq_true rfl), (Nat.le_of_ble_eq_true rfl), (Nat.le_of_ble_eq_true rfl)⟩ rfl d_law_643) (fun H locs hI => ?_)
  exact lv_icmp_eq (tgt := 1118) hx hb d_law_646 (by decide) (fun _ => kk H locs h2 hI I') (fun q => absurd rfl q)
theorem w_least (X : zX p s m #[Value.ref b] meth c "AllHomeLaw" code 4 ret G (bA s.heap.size)) (hX : va_X b L xs s s.heap) (hbl : b < s.heap.size) (hL : L ≤ 3072) (hI : zI G 693 s (bA s.heap.size) H locs h) (hl : lv_has ls 4 [(3, .int (nI (6 * j))), (2, .ref (G.1 670)), (1, .ref (G.1 0)), (0, .ref b)]) (hj : 6 * j + 6 ≤ L) (I : INVx (60 * j) h) (kk : ∀ (H1 : Heap) (locs1 : List Loc) (h1 : zH), zI G 693 s (bA s.heap.size) H1 locs1 h1 → INVx (60 * j + 60) h1 → W p l e room_1 s m #[Value.ref b] below meth c H1 locs1 693 87448 Q (F0 m 1118 ls [])) : W p l e room_1 s m #[Value.ref b] below meth c H locs 693 87448 Q (F0 m 651 ls []) := by
  obtain ⟨hx, hb, hml, hown, hts, -⟩ := id X
  obtain ⟨r, h1, h2, e1, e2, I'⟩ := k_least I (by omega) (xs (6 * j + 1)) (xs (6 * j + 2)) (xs (6 * j + 3))
  have q1 : zcls h1 670 = 7 := zc_cv (by unfold m_Model_least at e2; exact e2)
  refine lv_aload_n hx hb d_law_651 rfl (lv_at hl 2 rfl) ?_
  refine q_arg (k := 1) X hX hbl hI hl (by omega) hL rfl a_652 ?_
  refine q_arg (k := 2) X hX hbl hI hl (by omega) hL rfl a_657 ?_
  refine q_arg (k := 3) X hX hbl hI hl (by omega) hL rfl a_662 ?_
  refine z_ci hI (z_runV (As := [.int (xs (6 * j + 1)), .int (xs (6 * j + 2)), .int (xs (6 * j + 3))]) (rest := []) X hI hl.1 (c_Home_least l G 693 0 _ _ _ h r h1 e1) C_Law_78 rfl I.cls.1 (Nat.le_of_ble_eq_true rfl) ⟨(Nat.le_of_ble_eq_true rfl), (Nat.le_of_ble_eq_true rfl), (Nat.le_of_ble_eq_true rfl), (Nat.le_of_ble_eq_true rfl)⟩ rfl d_law_667) (fun H locs hI => ?_)
  refine lv_aload_n hx hb d_law_670 rfl (lv_at hl 1 rfl) ?_
  refine q_arg (k := 1) X hX hbl hI hl (by omega) hL rfl a_671 ?_
  refine q_arg (k := 2) X hX hbl hI hl (by omega) hL rfl a_676 ?_
  refine q_arg (k := 3) X hX hbl hI hl (by omega) hL rfl a_681 ?_
  refine z_ci hI (z_runV (As := [.int (xs (6 * j + 1)), .int (xs (6 * j + 2)), .int (xs (6 * j + 3))]) (rest := [.int r]) X hI hl.1 (c_Model_least l G 693 670 _ _ _ h1 r h2 e2) C_Law_81 rfl q1 (Nat.le_of_ble_eq_true rfl) ⟨(Nat.le_of_ble_eq_true rfl), (Nat.le_of_ble_eq_true rfl), (Nat.le_of_ble_eq_true rfl), (Nat.le_of_ble_eq_true rfl)⟩ rfl d_law_686) (fun H locs hI => ?_)
  exact lv_icmp_eq (tgt := 1118) hx hb d_law_689 (by decide) (fun _ => kk H locs h2 hI I') (fun q => absurd rfl q)
theorem w_stuck (X : zX p s m #[Value.ref b] meth c "AllHomeLaw" code 4 ret G (bA s.heap.size)) (hX : va_X b L xs s s.heap) (hbl : b < s.heap.size) (hL : L ≤ 3072) (hI : zI G 693 s (bA s.heap.size) H locs h) (hl : lv_has ls 4 [(3, .int (nI (6 * j))), (2, .ref (G.1 670)), (1, .ref (G.1 0)), (0, .ref b)]) (hj : 6 * j + 6 ≤ L) (I : INVx (60 * j) h) (kk : ∀ (H1 : Heap) (locs1 : List Loc) (h1 : zH), zI G 693 s (bA s.heap.size) H1 locs1 h1 → INVx (60 * j + 60) h1 → W p l e room_1 s m #[Value.ref b] below meth c H1 locs1 693 87448 Q (F0 m 1118 ls [])) : W p l e room_1 s m #[Value.ref b] below meth c H locs 693 87448 Q (F0 m 694 ls []) := by
  obtain ⟨hx, hb, hml, hown, hts, -⟩ := id X
  obtain ⟨r, h1, h2, e1, e2, I'⟩ := k_stuck I (by omega) (xs (6 * j + 1))
  have q1 : zcls h1 670 = 7 := zc_b2 (by unfold m_Model_stuck at e2; exact e2)
  refine lv_aload_n hx hb d_law_694 rfl (lv_at hl 2 rfl) ?_
  refine q_arg (k := 1) X hX hbl hI hl (by omega) hL rfl a_695 ?_
  refine z_ci hI (z_runV (As := [.int (xs (6 * j + 1))]) (rest := []) X hI hl.1 (c_Home_stuck l G 693 0 _ h r h1 e1) C_Law_82 rfl I.cls.1 (Nat.le_of_ble_eq_true rfl) ⟨(Nat.le_of_ble_eq_true rfl), (Nat.le_of_ble_eq_true rfl), (Nat.le_of_ble_eq_true rfl), (Nat.le_of_ble_eq_true rfl)⟩ rfl d_law_700) (fun H locs hI => ?_)
  refine lv_aload_n hx hb d_law_703 rfl (lv_at hl 1 rfl) ?_
  refine q_arg (k := 1) X hX hbl hI hl (by omega) hL rfl a_704 ?_
  refine z_ci hI (z_runV (As := [.int (xs (6 * j + 1))]) (rest := [.int r]) X hI hl.1 (c_Model_stuck l G 693 670 _ h1 r h2 e2) C_Law_85 rfl q1 (Nat.le_of_ble_eq_true rfl) ⟨(Nat.le_of_ble_eq_true rfl), (Nat.le_of_ble_eq_true rfl), (Nat.le_of_ble_eq_true rfl), (Nat.le_of_ble_eq_true rfl)⟩ rfl d_law_709) (fun H locs hI => ?_)
  exact lv_icmp_eq (tgt := 1118) hx hb d_law_712 (by decide) (fun _ => kk H locs h2 hI I') (fun q => absurd rfl q)
theorem w_work (X : zX p s m #[Value.ref b] meth c "AllHomeLaw" code 4 ret G (bA s.heap.size)) (hX : va_X b L xs s s.heap) (hbl : b < s.heap.size) (hL : L ≤ 3072) (hI : zI G 693 s (bA s.heap.size) H locs h) (hl : lv_has ls 4 [(3, .int (nI (6 * j))), (2, .ref (G.1 670)), (1, .ref (G.1 0)), (0, .ref b)]) (hj : 6 * j + 6 ≤ L) (I : INVx (60 * j) h) (kk : ∀ (H1 : Heap) (locs1 : List Loc) (h1 : zH), zI G 693 s (bA s.heap.size) H1 locs1 h1 → INVx (60 * j + 60) h1 → W p l e room_1 s m #[Value.ref b] below meth c H1 locs1 693 87448 Q (F0 m 1118 ls [])) : W p l e room_1 s m #[Value.ref b] below meth c H locs 693 87448 Q (F0 m 717 ls []) := by
  obtain ⟨hx, hb, hml, hown, hts, -⟩ := id X
  obtain ⟨r, h1, h2, e1, e2, I'⟩ := k_work I (by omega) (xs (6 * j + 1)) (xs (6 * j + 2))
  have q1 : zcls h1 670 = 7 := zc_cv (by unfold m_Model_work at e2; exact e2)
  refine lv_aload_n hx hb d_law_717 rfl (lv_at hl 2 rfl) ?_
  refine q_arg (k := 1) X hX hbl hI hl (by omega) hL rfl a_718 ?_
  refine q_arg (k := 2) X hX hbl hI hl (by omega) hL rfl a_723 ?_
  refine z_ci hI (z_runV (As := [.int (xs (6 * j + 1)), .int (xs (6 * j + 2))]) (rest := []) X hI hl.1 (c_Home_work l G 693 0 _ _ h r h1 e1) C_Law_86 rfl I.cls.1 (Nat.le_of_ble_eq_true rfl) ⟨(Nat.le_of_ble_eq_true rfl), (Nat.le_of_ble_eq_true rfl), (Nat.le_of_ble_eq_true rfl), (Nat.le_of_ble_eq_true rfl)⟩ rfl d_law_728) (fun H locs hI => ?_)
  refine lv_aload_n hx hb d_law_731 rfl (lv_at hl 1 rfl) ?_
  refine q_arg (k := 1) X hX hbl hI hl (by omega) hL rfl a_732 ?_
  refine q_arg (k := 2) X hX hbl hI hl (by omega) hL rfl a_737 ?_
  refine z_ci hI (z_runV (As := [.int (xs (6 * j + 1)), .int (xs (6 * j + 2))]) (rest := [.int r]) X hI hl.1 (c_Model_work l G 693 670 _ _ h1 r h2 e2) C_Law_89 rfl q1 (Nat.le_of_ble_eq_true rfl) ⟨(Nat.le_of_ble_eq_true rfl), (Nat.le_of_ble_eq_true rfl), (Nat.le_of_ble_eq_true rfl), (Nat.le_of_ble_eq_true rfl)⟩ rfl d_law_742) (fun H locs hI => ?_)
  exact lv_icmp_eq (tgt := 1118) hx hb d_law_745 (by decide) (fun _ => kk H locs h2 hI I') (fun q => absurd rfl q)
theorem w_act (X : zX p s m #[Value.ref b] meth c "AllHomeLaw" code 4 ret G (bA s.heap.size)) (hX : va_X b L xs s s.heap) (hbl : b < s.heap.size) (hL : L ≤ 3072) (hI : zI G 693 s (bA s.heap.size) H locs h) (hl : lv_has ls 4 [(3, .int (nI (6 * j))), (2, .ref (G.1 670)), (1, .ref (G.1 0)), (0, .ref b)]) (hj : 6 * j + 6 ≤ L) (I : INVx (60 * j) h) (kk : ∀ (H1 : Heap) (locs1 : List Loc) (h1 : zH), zI G 693 s (bA s.heap.size) H1 locs1 h1 → INVx (60 * j + 60) h1 → W p l e room_1 s m #[Value.ref b] below meth c H1 locs1 693 87448 Q (F0 m 1118 ls [])) : W p l e room_1 s m #[Value.ref b] below meth c H locs 693 87448 Q (F0 m 750 ls []) := by
  obtain ⟨hx, hb, hml, hown, hts, -⟩ := id X
  obtain ⟨r, h1, h2, e1, e2, I'⟩ := k_act I (by omega) (xs (6 * j + 1)) (xs (6 * j + 2)) (xs (6 * j + 3))
  have q1 : zcls h1 670 = 7 := zc_wI (by unfold m_Model_act at e2; exact e2)
  refine lv_aload_n hx hb d_law_750 rfl (lv_at hl 2 rfl) ?_
  refine q_arg (k := 1) X hX hbl hI hl (by omega) hL rfl a_751 ?_
  refine q_arg (k := 2) X hX hbl hI hl (by omega) hL rfl a_756 ?_
  refine q_arg (k := 3) X hX hbl hI hl (by omega) hL rfl a_761 ?_
  refine z_ci hI (z_runV (As := [.int (xs (6 * j + 1)), .int (xs (6 * j + 2)), .int (xs (6 * j + 3))]) (rest := []) X hI hl.1 (c_Home_act l G 693 0 _ _ _ h r h1 e1) C_Law_90 rfl I.cls.1 (Nat.le_of_ble_eq_true rfl) ⟨(Nat.le_of_ble_eq_true rfl), (Nat.le_of_ble_eq_true rfl), (Nat.le_of_ble_eq_true rfl), (Nat.le_of_ble_eq_true rfl)⟩ rfl d_law_766) (fun H locs hI => ?_)
  refine lv_aload_n hx hb d_law_769 rfl (lv_at hl 1 rfl) ?_
  refine q_arg (k := 1) X hX hbl hI hl (by omega) hL rfl a_770 ?_
  refine q_arg (k := 2) X hX hbl hI hl (by omega) hL rfl a_775 ?_
  refine q_arg (k := 3) X hX hbl hI hl (by omega) hL rfl a_780 ?_
  refine z_ci hI (z_runV (As := [.int (xs (6 * j + 1)), .int (xs (6 * j + 2)), .int (xs (6 * j + 3))]) (rest := [.int r]) X hI hl.1 (c_Model_act l G 693 670 _ _ _ h1 r h2 e2) C_Law_93 rfl q1 (Nat.le_of_ble_eq_true rfl) ⟨(Nat.le_of_ble_eq_true rfl), (Nat.le_of_ble_eq_true rfl), (Nat.le_of_ble_eq_true rfl), (Nat.le_of_ble_eq_true rfl)⟩ rfl d_law_785) (fun H locs hI => ?_)
  exact lv_icmp_eq (tgt := 1118) hx hb d_law_788 (by decide) (fun _ => kk H locs h2 hI I') (fun q => absurd rfl q)
theorem w_trace (X : zX p s m #[Value.ref b] meth c "AllHomeLaw" code 4 ret G (bA s.heap.size)) (hX : va_X b L xs s s.heap) (hbl : b < s.heap.size) (hL : L ≤ 3072) (hI : zI G 693 s (bA s.heap.size) H locs h) (hl : lv_has ls 4 [(3, .int (nI (6 * j))), (2, .ref (G.1 670)), (1, .ref (G.1 0)), (0, .ref b)]) (hj : 6 * j + 6 ≤ L) (I : INVx (60 * j) h) (kk : ∀ (H1 : Heap) (locs1 : List Loc) (h1 : zH), zI G 693 s (bA s.heap.size) H1 locs1 h1 → INVx (60 * j + 60) h1 → W p l e room_1 s m #[Value.ref b] below meth c H1 locs1 693 87448 Q (F0 m 1118 ls [])) : W p l e room_1 s m #[Value.ref b] below meth c H locs 693 87448 Q (F0 m 793 ls []) := by
  obtain ⟨hx, hb, hml, hown, hts, -⟩ := id X
  obtain ⟨r, e1, e2⟩ := k_trace I (xs (6 * j + 1))
  have q1 := I.cls.2
  have I' := INVx.mono I (Nat.le_add_right (60 * j) 60)
  refine lv_aload_n hx hb d_law_793 rfl (lv_at hl 2 rfl) ?_
  refine q_arg (k := 1) X hX hbl hI hl (by omega) hL rfl a_794 ?_
  refine z_ci hI (z_runV (As := [.int (xs (6 * j + 1))]) (rest := []) X hI hl.1 (c_Home_trace l G 693 0 _ h r e1) C_Law_94 rfl I.cls.1 (Nat.le_of_ble_eq_true rfl) ⟨(Nat.le_of_ble_eq_true rfl), (Nat.le_of_ble_eq_true rfl), (Nat.le_of_ble_eq_true rfl), (Nat.le_of_ble_eq_true rfl)⟩ rfl d_law_799) (fun H locs hI => ?_)
  refine lv_aload_n hx hb d_law_802 rfl (lv_at hl 1 rfl) ?_
  refine q_arg (k := 1) X hX hbl hI hl (by omega) hL rfl a_803 ?_
  refine z_ci hI (z_runV (As := [.int (xs (6 * j + 1))]) (rest := [.int r]) X hI hl.1 (c_Model_trace l G 693 670 _ h r e2) C_Law_97 rfl q1 (Nat.le_of_ble_eq_true rfl) ⟨(Nat.le_of_ble_eq_true rfl), (Nat.le_of_ble_eq_true rfl), (Nat.le_of_ble_eq_true rfl), (Nat.le_of_ble_eq_true rfl)⟩ rfl d_law_808) (fun H locs hI => ?_)
  exact lv_icmp_eq (tgt := 1118) hx hb d_law_811 (by decide) (fun _ => kk H locs h hI I') (fun q => absurd rfl q)
theorem w_keep (X : zX p s m #[Value.ref b] meth c "AllHomeLaw" code 4 ret G (bA s.heap.size)) (hX : va_X b L xs s s.heap) (hbl : b < s.heap.size) (hL : L ≤ 3072) (hI : zI G 693 s (bA s.heap.size) H locs h) (hl : lv_has ls 4 [(3, .int (nI (6 * j))), (2, .ref (G.1 670)), (1, .ref (G.1 0)), (0, .ref b)]) (hj : 6 * j + 6 ≤ L) (I : INVx (60 * j) h) (kk : ∀ (H1 : Heap) (locs1 : List Loc) (h1 : zH), zI G 693 s (bA s.heap.size) H1 locs1 h1 → INVx (60 * j + 60) h1 → W p l e room_1 s m #[Value.ref b] below meth c H1 locs1 693 87448 Q (F0 m 1118 ls [])) : W p l e room_1 s m #[Value.ref b] below meth c H locs 693 87448 Q (F0 m 816 ls []) := by
  obtain ⟨hx, hb, hml, hown, hts, -⟩ := id X
  obtain ⟨r, h1, h2, e1, e2, I'⟩ := k_keep I (by omega) (xs (6 * j + 1)) (xs (6 * j + 2))
  have q1 : zcls h1 670 = 7 := (ck_keep _ _ _ e1 670).trans I.cls.2
  refine lv_aload_n hx hb d_law_816 rfl (lv_at hl 2 rfl) ?_
  refine q_arg (k := 1) X hX hbl hI hl (by omega) hL rfl a_817 ?_
  refine q_arg (k := 2) X hX hbl hI hl (by omega) hL rfl a_822 ?_
  refine z_ci hI (z_runV (As := [.int (xs (6 * j + 1)), .int (xs (6 * j + 2))]) (rest := []) X hI hl.1 (c_Home_keep l G 693 0 _ _ h r h1 e1) C_Law_98 rfl I.cls.1 (Nat.le_of_ble_eq_true rfl) ⟨(Nat.le_of_ble_eq_true rfl), (Nat.le_of_ble_eq_true rfl), (Nat.le_of_ble_eq_true rfl), (Nat.le_of_ble_eq_true rfl)⟩ rfl d_law_827) (fun H locs hI => ?_)
  refine lv_aload_n hx hb d_law_830 rfl (lv_at hl 1 rfl) ?_
  refine q_arg (k := 1) X hX hbl hI hl (by omega) hL rfl a_831 ?_
  refine q_arg (k := 2) X hX hbl hI hl (by omega) hL rfl a_836 ?_
  refine z_ci hI (z_runV (As := [.int (xs (6 * j + 1)), .int (xs (6 * j + 2))]) (rest := [.int r]) X hI hl.1 (c_Model_keep l G 693 670 _ _ h1 r h2 e2) C_Law_101 rfl q1 (Nat.le_of_ble_eq_true rfl) ⟨(Nat.le_of_ble_eq_true rfl), (Nat.le_of_ble_eq_true rfl), (Nat.le_of_ble_eq_true rfl), (Nat.le_of_ble_eq_true rfl)⟩ rfl d_law_841) (fun H locs hI => ?_)
  exact lv_icmp_eq (tgt := 1118) hx hb d_law_844 (by decide) (fun _ => kk H locs h2 hI I') (fun q => absurd rfl q)
theorem w_row (X : zX p s m #[Value.ref b] meth c "AllHomeLaw" code 4 ret G (bA s.heap.size)) (hX : va_X b L xs s s.heap) (hbl : b < s.heap.size) (hL : L ≤ 3072) (hI : zI G 693 s (bA s.heap.size) H locs h) (hl : lv_has ls 4 [(3, .int (nI (6 * j))), (2, .ref (G.1 670)), (1, .ref (G.1 0)), (0, .ref b)]) (hj : 6 * j + 6 ≤ L) (I : INVx (60 * j) h) (kk : ∀ (H1 : Heap) (locs1 : List Loc) (h1 : zH), zI G 693 s (bA s.heap.size) H1 locs1 h1 → INVx (60 * j + 60) h1 → W p l e room_1 s m #[Value.ref b] below meth c H1 locs1 693 87448 Q (F0 m 1118 ls [])) : W p l e room_1 s m #[Value.ref b] below meth c H locs 693 87448 Q (F0 m 849 ls []) := by
  obtain ⟨hx, hb, hml, hown, hts, -⟩ := id X
  obtain ⟨r, h1, h2, e1, e2, I'⟩ := k_row I (by omega) (xs (6 * j + 1)) (xs (6 * j + 2)) (xs (6 * j + 3))
  have q1 : zcls h1 670 = 7 := (ck_row _ _ _ _ e1 670).trans I.cls.2
  refine lv_aload_n hx hb d_law_849 rfl (lv_at hl 2 rfl) ?_
  refine q_arg (k := 1) X hX hbl hI hl (by omega) hL rfl a_850 ?_
  refine q_arg (k := 2) X hX hbl hI hl (by omega) hL rfl a_855 ?_
  refine q_arg (k := 3) X hX hbl hI hl (by omega) hL rfl a_860 ?_
  refine z_ci hI (z_runV (As := [.int (xs (6 * j + 1)), .int (xs (6 * j + 2)), .int (xs (6 * j + 3))]) (rest := []) X hI hl.1 (c_Home_row l G 693 0 _ _ _ h r h1 e1) C_Law_102 rfl I.cls.1 (Nat.le_of_ble_eq_true rfl) ⟨(Nat.le_of_ble_eq_true rfl), (Nat.le_of_ble_eq_true rfl), (Nat.le_of_ble_eq_true rfl), (Nat.le_of_ble_eq_true rfl)⟩ rfl d_law_865) (fun H locs hI => ?_)
  refine lv_aload_n hx hb d_law_868 rfl (lv_at hl 1 rfl) ?_
  refine q_arg (k := 1) X hX hbl hI hl (by omega) hL rfl a_869 ?_
  refine q_arg (k := 2) X hX hbl hI hl (by omega) hL rfl a_874 ?_
  refine q_arg (k := 3) X hX hbl hI hl (by omega) hL rfl a_879 ?_
  refine z_ci hI (z_runV (As := [.int (xs (6 * j + 1)), .int (xs (6 * j + 2)), .int (xs (6 * j + 3))]) (rest := [.int r]) X hI hl.1 (c_Model_row l G 693 670 _ _ _ h1 r h2 e2) C_Law_105 rfl q1 (Nat.le_of_ble_eq_true rfl) ⟨(Nat.le_of_ble_eq_true rfl), (Nat.le_of_ble_eq_true rfl), (Nat.le_of_ble_eq_true rfl), (Nat.le_of_ble_eq_true rfl)⟩ rfl d_law_884) (fun H locs hI => ?_)
  exact lv_icmp_eq (tgt := 1118) hx hb d_law_887 (by decide) (fun _ => kk H locs h2 hI I') (fun q => absurd rfl q)
theorem w_put (X : zX p s m #[Value.ref b] meth c "AllHomeLaw" code 4 ret G (bA s.heap.size)) (hX : va_X b L xs s s.heap) (hbl : b < s.heap.size) (hL : L ≤ 3072) (hI : zI G 693 s (bA s.heap.size) H locs h) (hl : lv_has ls 4 [(3, .int (nI (6 * j))), (2, .ref (G.1 670)), (1, .ref (G.1 0)), (0, .ref b)]) (hj : 6 * j + 6 ≤ L) (I : INVx (60 * j) h) (kk : ∀ (H1 : Heap) (locs1 : List Loc) (h1 : zH), zI G 693 s (bA s.heap.size) H1 locs1 h1 → INVx (60 * j + 60) h1 → W p l e room_1 s m #[Value.ref b] below meth c H1 locs1 693 87448 Q (F0 m 1118 ls [])) : W p l e room_1 s m #[Value.ref b] below meth c H locs 693 87448 Q (F0 m 892 ls []) := by
  obtain ⟨hx, hb, hml, hown, hts, -⟩ := id X
  obtain ⟨r, h1, h2, e1, e2, I'⟩ := k_put I (by omega) (xs (6 * j + 1)) (xs (6 * j + 2)) (qV (xs (6 * j + 3)) (xs (6 * j + 4)))
  have q1 : zcls h1 670 = 7 := zc_cv (by unfold m_Model_put at e2; exact e2)
  refine lv_aload_n hx hb d_law_892 rfl (lv_at hl 2 rfl) ?_
  refine q_arg (k := 1) X hX hbl hI hl (by omega) hL rfl a_893 ?_
  refine q_arg (k := 2) X hX hbl hI hl (by omega) hL rfl a_898 ?_
  refine q_arg (k := 3) X hX hbl hI hl (by omega) hL rfl a_903 ?_
  refine lv_i2l hx hb d_law_908 rfl ?_
  refine lv_bipush (v := (32 : Int32)) hx hb d_law_909 (by decide) ?_
  refine lv_lshl hx hb d_law_911 rfl ?_
  refine q_arg (k := 4) X hX hbl hI hl (by omega) hL rfl a_912 ?_
  refine lv_i2l hx hb d_law_917 rfl ?_
  refine lv_ldc2 (v := (4294967295 : Int64)) hx hb hown (hts _ kw1084) d_law_918 ?_
  refine lv_land hx hb d_law_921 ?_
  refine lv_lor hx hb d_law_922 ?_
  refine z_ci hI (z_runV (As := [.int (xs (6 * j + 1)), .int (xs (6 * j + 2)), .long (qV (xs (6 * j + 3)) (xs (6 * j + 4)))]) (rest := []) X hI hl.1 (c_Home_put l G 693 0 _ _ _ h r h1 e1) C_Law_108 rfl I.cls.1 (Nat.le_of_ble_eq_true rfl) ⟨(Nat.le_of_ble_eq_true rfl), (Nat.le_of_ble_eq_true rfl), (Nat.le_of_ble_eq_true rfl), (Nat.le_of_ble_eq_true rfl)⟩ rfl d_law_923) (fun H locs hI => ?_)
  refine lv_aload_n hx hb d_law_926 rfl (lv_at hl 1 rfl) ?_
  refine q_arg (k := 1) X hX hbl hI hl (by omega) hL rfl a_927 ?_
  refine q_arg (k := 2) X hX hbl hI hl (by omega) hL rfl a_932 ?_
  refine q_arg (k := 3) X hX hbl hI hl (by omega) hL rfl a_937 ?_
  refine lv_i2l hx hb d_law_942 rfl ?_
  refine lv_bipush (v := (32 : Int32)) hx hb d_law_943 (by decide) ?_
  refine lv_lshl hx hb d_law_945 rfl ?_
  refine q_arg (k := 4) X hX hbl hI hl (by omega) hL rfl a_946 ?_
  refine lv_i2l hx hb d_law_951 rfl ?_
  refine lv_ldc2 (v := (4294967295 : Int64)) hx hb hown (hts _ kw1084) d_law_952 ?_
  refine lv_land hx hb d_law_955 ?_
  refine lv_lor hx hb d_law_956 ?_
  refine z_ci hI (z_runV (As := [.int (xs (6 * j + 1)), .int (xs (6 * j + 2)), .long (qV (xs (6 * j + 3)) (xs (6 * j + 4)))]) (rest := [.int r]) X hI hl.1 (c_Model_put l G 693 670 _ _ _ h1 r h2 e2) C_Law_112 rfl q1 (Nat.le_of_ble_eq_true rfl) ⟨(Nat.le_of_ble_eq_true rfl), (Nat.le_of_ble_eq_true rfl), (Nat.le_of_ble_eq_true rfl), (Nat.le_of_ble_eq_true rfl)⟩ rfl d_law_957) (fun H locs hI => ?_)
  exact lv_icmp_eq (tgt := 1118) hx hb d_law_960 (by decide) (fun _ => kk H locs h2 hI I') (fun q => absurd rfl q)
theorem w_element (X : zX p s m #[Value.ref b] meth c "AllHomeLaw" code 4 ret G (bA s.heap.size)) (hX : va_X b L xs s s.heap) (hbl : b < s.heap.size) (hL : L ≤ 3072) (hI : zI G 693 s (bA s.heap.size) H locs h) (hl : lv_has ls 4 [(3, .int (nI (6 * j))), (2, .ref (G.1 670)), (1, .ref (G.1 0)), (0, .ref b)]) (hj : 6 * j + 6 ≤ L) (I : INVx (60 * j) h) (kk : ∀ (H1 : Heap) (locs1 : List Loc) (h1 : zH), zI G 693 s (bA s.heap.size) H1 locs1 h1 → INVx (60 * j + 60) h1 → W p l e room_1 s m #[Value.ref b] below meth c H1 locs1 693 87448 Q (F0 m 1118 ls [])) : W p l e room_1 s m #[Value.ref b] below meth c H locs 693 87448 Q (F0 m 965 ls []) := by
  obtain ⟨hx, hb, hml, hown, hts, -⟩ := id X
  obtain ⟨r, e1, e2⟩ := k_element I (xs (6 * j + 1)) (xs (6 * j + 2))
  have q1 := I.cls.2
  have I' := INVx.mono I (Nat.le_add_right (60 * j) 60)
  refine lv_aload_n hx hb d_law_965 rfl (lv_at hl 2 rfl) ?_
  refine q_arg (k := 1) X hX hbl hI hl (by omega) hL rfl a_966 ?_
  refine q_arg (k := 2) X hX hbl hI hl (by omega) hL rfl a_971 ?_
  refine z_cl hI (z_runV (As := [.int (xs (6 * j + 1)), .int (xs (6 * j + 2))]) (rest := []) X hI hl.1 (c_Home_element l G 693 0 _ _ h r e1) C_Law_113 rfl I.cls.1 (Nat.le_of_ble_eq_true rfl) ⟨(Nat.le_of_ble_eq_true rfl), (Nat.le_of_ble_eq_true rfl), (Nat.le_of_ble_eq_true rfl), (Nat.le_of_ble_eq_true rfl)⟩ rfl d_law_976) (fun H locs hI => ?_)
  refine lv_aload_n hx hb d_law_979 rfl (lv_at hl 1 rfl) ?_
  refine q_arg (k := 1) X hX hbl hI hl (by omega) hL rfl a_980 ?_
  refine q_arg (k := 2) X hX hbl hI hl (by omega) hL rfl a_985 ?_
  refine z_cl hI (z_runV (As := [.int (xs (6 * j + 1)), .int (xs (6 * j + 2))]) (rest := [.long r]) X hI hl.1 (c_Model_element l G 693 670 _ _ h r e2) C_Law_117 rfl q1 (Nat.le_of_ble_eq_true rfl) ⟨(Nat.le_of_ble_eq_true rfl), (Nat.le_of_ble_eq_true rfl), (Nat.le_of_ble_eq_true rfl), (Nat.le_of_ble_eq_true rfl)⟩ rfl d_law_990) (fun H locs hI => ?_)
  refine W.lcmp hx hb d_law_993 ?_
  exact lv_if_eq (tgt := 1118) hx hb d_law_994 (by decide) (fun _ => kk H locs h hI I') (fun q => absurd (q_cmp r) q)
theorem w_shift (X : zX p s m #[Value.ref b] meth c "AllHomeLaw" code 4 ret G (bA s.heap.size)) (hX : va_X b L xs s s.heap) (hbl : b < s.heap.size) (hL : L ≤ 3072) (hI : zI G 693 s (bA s.heap.size) H locs h) (hl : lv_has ls 4 [(3, .int (nI (6 * j))), (2, .ref (G.1 670)), (1, .ref (G.1 0)), (0, .ref b)]) (hj : 6 * j + 6 ≤ L) (I : INVx (60 * j) h) (kk : ∀ (H1 : Heap) (locs1 : List Loc) (h1 : zH), zI G 693 s (bA s.heap.size) H1 locs1 h1 → INVx (60 * j + 60) h1 → W p l e room_1 s m #[Value.ref b] below meth c H1 locs1 693 87448 Q (F0 m 1118 ls [])) : W p l e room_1 s m #[Value.ref b] below meth c H locs 693 87448 Q (F0 m 999 ls []) := by
  obtain ⟨hx, hb, hml, hown, hts, -⟩ := id X
  obtain ⟨r, h1, h2, e1, e2, I'⟩ := k_shift I (by omega) (xs (6 * j + 1)) (xs (6 * j + 2)) (xs (6 * j + 3)) (xs (6 * j + 4)) (xs (6 * j + 5))
  have q1 : zcls h1 670 = 7 := (ck_shift _ _ _ _ _ _ e1 670).trans I.cls.2
  refine lv_aload_n hx hb d_law_999 rfl (lv_at hl 2 rfl) ?_
  refine q_arg (k := 1) X hX hbl hI hl (by omega) hL rfl a_1000 ?_
  refine q_arg (k := 2) X hX hbl hI hl (by omega) hL rfl a_1005 ?_
  refine q_arg (k := 3) X hX hbl hI hl (by omega) hL rfl a_1010 ?_
  refine q_arg (k := 4) X hX hbl hI hl (by omega) hL rfl a_1015 ?_
  refine q_arg (k := 5) X hX hbl hI hl (by omega) hL rfl a_1020 ?_
  refine z_ci hI (z_runV (As := [.int (xs (6 * j + 1)), .int (xs (6 * j + 2)), .int (xs (6 * j + 3)), .int (xs (6 * j + 4)), .int (xs (6 * j + 5))]) (rest := []) X hI hl.1 (c_Home_shift l G 693 0 _ _ _ _ _ h r h1 e1) C_Law_118 rfl I.cls.1 (Nat.le_of_ble_eq_true rfl) ⟨(Nat.le_of_ble_eq_true rfl), (Nat.le_of_ble_eq_true rfl), (Nat.le_of_ble_eq_true rfl), (Nat.le_of_ble_eq_true rfl)⟩ rfl d_law_1025) (fun H locs hI => ?_)
  refine lv_aload_n hx hb d_law_1028 rfl (lv_at hl 1 rfl) ?_
  refine q_arg (k := 1) X hX hbl hI hl (by omega) hL rfl a_1029 ?_
  refine q_arg (k := 2) X hX hbl hI hl (by omega) hL rfl a_1034 ?_
  refine q_arg (k := 3) X hX hbl hI hl (by omega) hL rfl a_1039 ?_
  refine q_arg (k := 4) X hX hbl hI hl (by omega) hL rfl a_1044 ?_
  refine q_arg (k := 5) X hX hbl hI hl (by omega) hL rfl a_1049 ?_
  refine z_ci hI (z_runV (As := [.int (xs (6 * j + 1)), .int (xs (6 * j + 2)), .int (xs (6 * j + 3)), .int (xs (6 * j + 4)), .int (xs (6 * j + 5))]) (rest := [.int r]) X hI hl.1 (c_Model_shift l G 693 670 _ _ _ _ _ h1 r h2 e2) C_Law_122 rfl q1 (Nat.le_of_ble_eq_true rfl) ⟨(Nat.le_of_ble_eq_true rfl), (Nat.le_of_ble_eq_true rfl), (Nat.le_of_ble_eq_true rfl), (Nat.le_of_ble_eq_true rfl)⟩ rfl d_law_1054) (fun H locs hI => ?_)
  exact lv_icmp_eq (tgt := 1118) hx hb d_law_1057 (by decide) (fun _ => kk H locs h2 hI I') (fun q => absurd rfl q)
theorem w_taken (X : zX p s m #[Value.ref b] meth c "AllHomeLaw" code 4 ret G (bA s.heap.size)) (hX : va_X b L xs s s.heap) (hbl : b < s.heap.size) (hL : L ≤ 3072) (hI : zI G 693 s (bA s.heap.size) H locs h) (hl : lv_has ls 4 [(3, .int (nI (6 * j))), (2, .ref (G.1 670)), (1, .ref (G.1 0)), (0, .ref b)]) (hj : 6 * j + 6 ≤ L) (I : INVx (60 * j) h) (kk : ∀ (H1 : Heap) (locs1 : List Loc) (h1 : zH), zI G 693 s (bA s.heap.size) H1 locs1 h1 → INVx (60 * j + 60) h1 → W p l e room_1 s m #[Value.ref b] below meth c H1 locs1 693 87448 Q (F0 m 1118 ls [])) : W p l e room_1 s m #[Value.ref b] below meth c H locs 693 87448 Q (F0 m 1062 ls []) := by
  obtain ⟨hx, hb, hml, hown, hts, -⟩ := id X
  obtain ⟨r, e1, e2⟩ := k_taken I (xs (6 * j + 1)) (xs (6 * j + 2))
  have q1 := I.cls.2
  have I' := INVx.mono I (Nat.le_add_right (60 * j) 60)
  refine lv_aload_n hx hb d_law_1062 rfl (lv_at hl 2 rfl) ?_
  refine q_arg (k := 1) X hX hbl hI hl (by omega) hL rfl a_1063 ?_
  refine q_arg (k := 2) X hX hbl hI hl (by omega) hL rfl a_1068 ?_
  refine z_ci hI (z_runV (As := [.int (xs (6 * j + 1)), .int (xs (6 * j + 2))]) (rest := []) X hI hl.1 (c_Home_taken l G 693 0 _ _ h r e1) C_Law_123 rfl I.cls.1 (Nat.le_of_ble_eq_true rfl) ⟨(Nat.le_of_ble_eq_true rfl), (Nat.le_of_ble_eq_true rfl), (Nat.le_of_ble_eq_true rfl), (Nat.le_of_ble_eq_true rfl)⟩ rfl d_law_1073) (fun H locs hI => ?_)
  refine lv_aload_n hx hb d_law_1076 rfl (lv_at hl 1 rfl) ?_
  refine q_arg (k := 1) X hX hbl hI hl (by omega) hL rfl a_1077 ?_
  refine q_arg (k := 2) X hX hbl hI hl (by omega) hL rfl a_1082 ?_
  refine z_ci hI (z_runV (As := [.int (xs (6 * j + 1)), .int (xs (6 * j + 2))]) (rest := [.int r]) X hI hl.1 (c_Model_taken l G 693 670 _ _ h r e2) C_Law_126 rfl q1 (Nat.le_of_ble_eq_true rfl) ⟨(Nat.le_of_ble_eq_true rfl), (Nat.le_of_ble_eq_true rfl), (Nat.le_of_ble_eq_true rfl), (Nat.le_of_ble_eq_true rfl)⟩ rfl d_law_1087) (fun H locs hI => ?_)
  exact lv_icmp_eq (tgt := 1118) hx hb d_law_1090 (by decide) (fun _ => kk H locs h hI I') (fun q => absurd rfl q)
theorem w_count (X : zX p s m #[Value.ref b] meth c "AllHomeLaw" code 4 ret G (bA s.heap.size)) (hX : va_X b L xs s s.heap) (hbl : b < s.heap.size) (hL : L ≤ 3072) (hI : zI G 693 s (bA s.heap.size) H locs h) (hl : lv_has ls 4 [(3, .int (nI (6 * j))), (2, .ref (G.1 670)), (1, .ref (G.1 0)), (0, .ref b)]) (hj : 6 * j + 6 ≤ L) (I : INVx (60 * j) h) (kk : ∀ (H1 : Heap) (locs1 : List Loc) (h1 : zH), zI G 693 s (bA s.heap.size) H1 locs1 h1 → INVx (60 * j + 60) h1 → W p l e room_1 s m #[Value.ref b] below meth c H1 locs1 693 87448 Q (F0 m 1118 ls [])) : W p l e room_1 s m #[Value.ref b] below meth c H locs 693 87448 Q (F0 m 1095 ls []) := by
  obtain ⟨hx, hb, hml, hown, hts, -⟩ := id X
  obtain ⟨r, e1, e2⟩ := k_count I (xs (6 * j + 1))
  have q1 := I.cls.2
  have I' := INVx.mono I (Nat.le_add_right (60 * j) 60)
  refine lv_aload_n hx hb d_law_1095 rfl (lv_at hl 2 rfl) ?_
  refine q_arg (k := 1) X hX hbl hI hl (by omega) hL rfl a_1096 ?_
  refine z_ci hI (z_runV (As := [.int (xs (6 * j + 1))]) (rest := []) X hI hl.1 (c_Home_count l G 693 0 _ h r e1) C_Law_127 rfl I.cls.1 (Nat.le_of_ble_eq_true rfl) ⟨(Nat.le_of_ble_eq_true rfl), (Nat.le_of_ble_eq_true rfl), (Nat.le_of_ble_eq_true rfl), (Nat.le_of_ble_eq_true rfl)⟩ rfl d_law_1101) (fun H locs hI => ?_)
  refine lv_aload_n hx hb d_law_1104 rfl (lv_at hl 1 rfl) ?_
  refine q_arg (k := 1) X hX hbl hI hl (by omega) hL rfl a_1105 ?_
  refine z_ci hI (z_runV (As := [.int (xs (6 * j + 1))]) (rest := [.int r]) X hI hl.1 (c_Model_count l G 693 670 _ h r e2) C_Law_130 rfl q1 (Nat.le_of_ble_eq_true rfl) ⟨(Nat.le_of_ble_eq_true rfl), (Nat.le_of_ble_eq_true rfl), (Nat.le_of_ble_eq_true rfl), (Nat.le_of_ble_eq_true rfl)⟩ rfl d_law_1110) (fun H locs hI => ?_)
  exact lv_icmp_eq (tgt := 1118) hx hb d_law_1113 (by decide) (fun _ => kk H locs h hI I') (fun q => absurd rfl q)
end LAW
