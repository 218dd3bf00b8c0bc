/-! THE CONSTRUCTORS, by program (wip/whole/cons.py) -/
-- Rules
theorem d_Rules_init_0 : decode prog_5_method_1_code 0 = .ok (.aload_n 0, 1) := by decide +kernel
theorem d_Rules_init_1 : decode prog_5_method_1_code 1 = .ok (.invokespecial 3, 3) := by decide +kernel
theorem d_Rules_init_4 : decode prog_5_method_1_code 4 = .ok (.aload_n 0, 1) := by decide +kernel
theorem d_Rules_init_5 : decode prog_5_method_1_code 5 = .ok (.aload_n 1, 1) := by decide +kernel
theorem d_Rules_init_6 : decode prog_5_method_1_code 6 = .ok (.putfield 9, 3) := by decide +kernel
theorem d_Rules_init_9 : decode prog_5_method_1_code 9 = .ok (.return_, 1) := by decide +kernel
def i_Rules_init (r : Nat) (u : Nat) (h : zH) : zH := zup h r (.inl (3, [.ref u, .int 0, .int 0]))
theorem i_Rules_init_self {r u : Nat} {h : zH} : i_Rules_init r u h r = (.inl (3, [.ref u, .int 0, .int 0])) := zup_eq _ _ _
theorem i_Rules_init_ne {r u k : Nat} {h : zH} (q : k < r ∨ r + 0 < k) : i_Rules_init r u h k = h k := by
  unfold i_Rules_init
  simp only [zup, zmul]
  repeat rw [if_neg (by omega)]
theorem i_Rules_init_sw {G : zG} {s : State} {S0 r u a K1 K2 : Nat} {H : Heap} {locs : List Loc} {Y : zH} {e : zE} (ha : a < r) (hI : zI G K1 s (bA S0) H locs (i_Rules_init r u (zup Y a e))) (hk : K1 = K2) : zI G K2 s (bA S0) H locs (zup (i_Rules_init r u Y) a e) := by
  have : i_Rules_init r u (zup Y a e) = zup (i_Rules_init r u Y) a e := by
    funext k
    by_cases q : k = a
    · subst q
      rw [i_Rules_init_ne (by omega), zup_eq, zup_eq]
    · rw [zup_ne q]
      unfold i_Rules_init
      simp only [zup, zmul, if_neg q]
  rw [this, hk] at hI
  exact hI
set_option maxHeartbeats 4000000 in
set_option maxRecDepth 100000 in
theorem ci_Rules_init (l : Launch) (G : zG) (S0 : Nat) (hG : bG1 G S0) (r : Nat) (u : Nat) (h : zH) (hr : h r = (.inl (3, [.null, .int 0, .int 0]))) : bMt l G S0 (r + 1) y_Rules_init prog_5_method_1_code 2 1 0 0 [.ref (G.1 r), .ref (G.1 u)] h (r + 1) (i_Rules_init r u h) := by
  refine b_met (by decide +kernel) rfl (Nat.le_of_ble_eq_true rfl) hG fun p e s m below meth c ls X hX hin hz hI hl => ?_
  obtain ⟨hx, hb, hml, hown, hts, -, hlocks, hK, hST, hNs⟩ := id X
  have hl : lv_has ls 2 [(0, .ref (G.1 r)), (1, .ref (G.1 u))] := hl
  have hI : zI G (r + 1) s (bA S0) s.heap [] (zup h r (.inl (3, [.null, .int 0, .int 0]))) := by rw [zup_self hr]; exact hI
  refine lv_aload_n hx hb d_Rules_init_0 rfl (lv_at hl 0 rfl) ?_
  refine W.objInit hx hb hown (hts _ kw56) (hts _ kw18) (hts _ kw19) rfl (by rw [hml]; exact hl.1) rfl d_Rules_init_1 (Nat.le_of_ble_eq_true rfl) (Nat.le_of_ble_eq_true rfl) ?_
  refine W.eq (g2 := F0 m 4 ls []) rfl ?_
  refine lv_aload_n hx hb d_Rules_init_4 rfl (lv_at hl 0 rfl) ?_
  refine lv_aload_n hx hb d_Rules_init_5 rfl (lv_at hl 1 rfl) ?_
  refine b_putF X hin hI P_Rules_9 (v := .ref u) (by simp) rfl rfl d_Rules_init_6 (fun H locs hI => ?_)
  have hI : zI G (r + 1) s (bA S0) H locs (zup h r (.inl (3, [.ref u, .int 0, .int 0]))) := hI
  have hI : zI G (r + 1) s (bA S0) H locs (i_Rules_init r u h) := hI
  exact b_vret X hI hG ⟨by have := hz.1; omega, by omega⟩ d_Rules_init_9
-- Acts
theorem d_Acts_init_0 : decode prog_2_method_1_code 0 = .ok (.aload_n 0, 1) := by decide +kernel
theorem d_Acts_init_1 : decode prog_2_method_1_code 1 = .ok (.invokespecial 3, 3) := by decide +kernel
theorem d_Acts_init_4 : decode prog_2_method_1_code 4 = .ok (.aload_n 0, 1) := by decide +kernel
theorem d_Acts_init_5 : decode prog_2_method_1_code 5 = .ok (.bipush 24, 2) := by decide +kernel
theorem d_Acts_init_7 : decode prog_2_method_1_code 7 = .ok (.newarray .int, 2) := by decide +kernel
theorem d_Acts_init_9 : decode prog_2_method_1_code 9 = .ok (.putfield 11, 3) := by decide +kernel
theorem d_Acts_init_12 : decode prog_2_method_1_code 12 = .ok (.return_, 1) := by decide +kernel
def i_Acts_init (r : Nat) (h : zH) : zH := zup (zup h (r + 1) (zI32 24 zZ0)) r (.inl (0, [.ref (r + 1), .int 0, .int 0, .int 0]))
theorem i_Acts_init_self {r : Nat} {h : zH} : i_Acts_init r h r = (.inl (0, [.ref (r + 1), .int 0, .int 0, .int 0])) := zup_eq _ _ _
theorem i_Acts_init_ne {r k : Nat} {h : zH} (q : k < r ∨ r + 1 < k) : i_Acts_init r h k = h k := by
  unfold i_Acts_init
  simp only [zup, zmul]
  repeat rw [if_neg (by omega)]
theorem i_Acts_init_sw {G : zG} {s : State} {S0 r a K1 K2 : Nat} {H : Heap} {locs : List Loc} {Y : zH} {e : zE} (ha : a < r) (hI : zI G K1 s (bA S0) H locs (i_Acts_init r (zup Y a e))) (hk : K1 = K2) : zI G K2 s (bA S0) H locs (zup (i_Acts_init r Y) a e) := by
  have : i_Acts_init r (zup Y a e) = zup (i_Acts_init r Y) a e := by
    funext k
    by_cases q : k = a
    · subst q
      rw [i_Acts_init_ne (by omega), zup_eq, zup_eq]
    · rw [zup_ne q]
      unfold i_Acts_init
      simp only [zup, zmul, if_neg q]
  rw [this, hk] at hI
  exact hI
set_option maxHeartbeats 4000000 in
set_option maxRecDepth 100000 in
theorem ci_Acts_init (l : Launch) (G : zG) (S0 : Nat) (hG : bG1 G S0) (r : Nat) (h : zH) (hr : h r = (.inl (0, [.null, .int 0, .int 0, .int 0]))) : bMt l G S0 (r + 1) y_Acts_init prog_2_method_1_code 1 1 1 24 [.ref (G.1 r)] h (r + 2) (i_Acts_init r h) := by
  refine b_met (by decide +kernel) rfl (Nat.le_of_ble_eq_true rfl) hG fun p e s m below meth c ls X hX hin hz hI hl => ?_
  obtain ⟨hx, hb, hml, hown, hts, -, hlocks, hK, hST, hNs⟩ := id X
  have hl : lv_has ls 1 [(0, .ref (G.1 r))] := hl
  have hI : zI G (r + 1) s (bA S0) s.heap [] (zup h r (.inl (0, [.null, .int 0, .int 0, .int 0]))) := by rw [zup_self hr]; exact hI
  refine lv_aload_n hx hb d_Acts_init_0 rfl (lv_at hl 0 rfl) ?_
  refine W.objInit hx hb hown (hts _ kw116) (hts _ kw18) (hts _ kw19) rfl (by rw [hml]; exact hl.1) rfl d_Acts_init_1 (Nat.le_of_ble_eq_true rfl) (Nat.le_of_ble_eq_true rfl) ?_
  refine W.eq (g2 := F0 m 4 ls []) rfl ?_
  refine lv_aload_n hx hb d_Acts_init_4 rfl (lv_at hl 0 rfl) ?_
  refine lv_bipush (v := (nI 24)) hx hb d_Acts_init_5 (by decide) ?_
  refine b_newI X hI hG ⟨by have := hz.1; omega, by omega⟩ kw41 (N := 24) (by omega) (Nat.le_of_ble_eq_true rfl) (Nat.le_of_ble_eq_true rfl) d_Acts_init_7 (fun H hI => ?_)
  replace hI := b_sw (K2 := (r + 2)) (by omega) hI rfl
  refine b_putF X hin hI P_Acts_11 (v := .ref (r + 1)) (by simp) rfl rfl d_Acts_init_9 (fun H locs hI => ?_)
  have hI : zI G (r + 2) s (bA S0) H locs (zup (zup h (r + 1) (zI32 24 zZ0)) r (.inl (0, [.ref (r + 1), .int 0, .int 0, .int 0]))) := hI
  have hI : zI G (r + 2) s (bA S0) H locs (i_Acts_init r h) := hI
  exact b_vret X hI hG ⟨by have := hz.1; omega, by omega⟩ d_Acts_init_12
-- Shelf
theorem d_Shelf_init_0 : decode prog_7_method_1_code 0 = .ok (.aload_n 0, 1) := by decide +kernel
theorem d_Shelf_init_1 : decode prog_7_method_1_code 1 = .ok (.invokespecial 3, 3) := by decide +kernel
theorem d_Shelf_init_4 : decode prog_7_method_1_code 4 = .ok (.aload_n 0, 1) := by decide +kernel
theorem d_Shelf_init_5 : decode prog_7_method_1_code 5 = .ok (.bipush 60, 2) := by decide +kernel
theorem d_Shelf_init_7 : decode prog_7_method_1_code 7 = .ok (.newarray .long, 2) := by decide +kernel
theorem d_Shelf_init_9 : decode prog_7_method_1_code 9 = .ok (.putfield 11, 3) := by decide +kernel
theorem d_Shelf_init_12 : decode prog_7_method_1_code 12 = .ok (.aload_n 0, 1) := by decide +kernel
theorem d_Shelf_init_13 : decode prog_7_method_1_code 13 = .ok (.iconst (-1), 1) := by decide +kernel
theorem d_Shelf_init_14 : decode prog_7_method_1_code 14 = .ok (.putfield 15, 3) := by decide +kernel
theorem d_Shelf_init_17 : decode prog_7_method_1_code 17 = .ok (.aload_n 0, 1) := by decide +kernel
theorem d_Shelf_init_18 : decode prog_7_method_1_code 18 = .ok (.iconst (-1), 1) := by decide +kernel
theorem d_Shelf_init_19 : decode prog_7_method_1_code 19 = .ok (.putfield 19, 3) := by decide +kernel
theorem d_Shelf_init_22 : decode prog_7_method_1_code 22 = .ok (.return_, 1) := by decide +kernel
def i_Shelf_init (r : Nat) (h : zH) : zH := zup (zup h (r + 1) (zI64 60 zJ0)) r (.inl (5, [.ref (r + 1), .int 0, .int (-1 : Int32), .int (-1 : Int32)]))
theorem i_Shelf_init_self {r : Nat} {h : zH} : i_Shelf_init r h r = (.inl (5, [.ref (r + 1), .int 0, .int (-1 : Int32), .int (-1 : Int32)])) := zup_eq _ _ _
theorem i_Shelf_init_ne {r k : Nat} {h : zH} (q : k < r ∨ r + 1 < k) : i_Shelf_init r h k = h k := by
  unfold i_Shelf_init
  simp only [zup, zmul]
  repeat rw [if_neg (by omega)]
theorem i_Shelf_init_sw {G : zG} {s : State} {S0 r a K1 K2 : Nat} {H : Heap} {locs : List Loc} {Y : zH} {e : zE} (ha : a < r) (hI : zI G K1 s (bA S0) H locs (i_Shelf_init r (zup Y a e))) (hk : K1 = K2) : zI G K2 s (bA S0) H locs (zup (i_Shelf_init r Y) a e) := by
  have : i_Shelf_init r (zup Y a e) = zup (i_Shelf_init r Y) a e := by
    funext k
    by_cases q : k = a
    · subst q
      rw [i_Shelf_init_ne (by omega), zup_eq, zup_eq]
    · rw [zup_ne q]
      unfold i_Shelf_init
      simp only [zup, zmul, if_neg q]
  rw [this, hk] at hI
  exact hI
set_option maxHeartbeats 4000000 in
set_option maxRecDepth 100000 in
theorem ci_Shelf_init (l : Launch) (G : zG) (S0 : Nat) (hG : bG1 G S0) (r : Nat) (h : zH) (hr : h r = (.inl (5, [.null, .int 0, .int 0, .int 0]))) : bMt l G S0 (r + 1) y_Shelf_init prog_7_method_1_code 1 1 1 60 [.ref (G.1 r)] h (r + 2) (i_Shelf_init r h) := by
  refine b_met (by decide +kernel) rfl (Nat.le_of_ble_eq_true rfl) hG fun p e s m below meth c ls X hX hin hz hI hl => ?_
  obtain ⟨hx, hb, hml, hown, hts, -, hlocks, hK, hST, hNs⟩ := id X
  have hl : lv_has ls 1 [(0, .ref (G.1 r))] := hl
  have hI : zI G (r + 1) s (bA S0) s.heap [] (zup h r (.inl (5, [.null, .int 0, .int 0, .int 0]))) := by rw [zup_self hr]; exact hI
  refine lv_aload_n hx hb d_Shelf_init_0 rfl (lv_at hl 0 rfl) ?_
  refine W.objInit hx hb hown (hts _ kw162) (hts _ kw18) (hts _ kw19) rfl (by rw [hml]; exact hl.1) rfl d_Shelf_init_1 (Nat.le_of_ble_eq_true rfl) (Nat.le_of_ble_eq_true rfl) ?_
  refine W.eq (g2 := F0 m 4 ls []) rfl ?_
  refine lv_aload_n hx hb d_Shelf_init_4 rfl (lv_at hl 0 rfl) ?_
  refine lv_bipush (v := (nI 60)) hx hb d_Shelf_init_5 (by decide) ?_
  refine b_newJ X hI hG ⟨by have := hz.1; omega, by omega⟩ kw176 (N := 60) (by omega) (Nat.le_of_ble_eq_true rfl) (Nat.le_of_ble_eq_true rfl) d_Shelf_init_7 (fun H hI => ?_)
  replace hI := b_sw (K2 := (r + 2)) (by omega) hI rfl
  refine b_putF X hin hI P_Shelf_11 (v := .ref (r + 1)) (by simp) rfl rfl d_Shelf_init_9 (fun H locs hI => ?_)
  have hI : zI G (r + 2) s (bA S0) H locs (zup (zup h (r + 1) (zI64 60 zJ0)) r (.inl (5, [.ref (r + 1), .int 0, .int 0, .int 0]))) := hI
  refine lv_aload_n hx hb d_Shelf_init_12 rfl (lv_at hl 0 rfl) ?_
  refine lv_iconst (v := (-1 : Int32)) hx hb d_Shelf_init_13 (by decide) ?_
  refine b_putV X hI P_Shelf_15 (v := .int (-1 : Int32)) (by simp) rfl rfl d_Shelf_init_14 (fun H locs hI => ?_)
  have hI : zI G (r + 2) s (bA S0) H locs (zup (zup h (r + 1) (zI64 60 zJ0)) r (.inl (5, [.ref (r + 1), .int 0, .int (-1 : Int32), .int 0]))) := hI
  refine lv_aload_n hx hb d_Shelf_init_17 rfl (lv_at hl 0 rfl) ?_
  refine lv_iconst (v := (-1 : Int32)) hx hb d_Shelf_init_18 (by decide) ?_
  refine b_putV X hI P_Shelf_19 (v := .int (-1 : Int32)) (by simp) rfl rfl d_Shelf_init_19 (fun H locs hI => ?_)
  have hI : zI G (r + 2) s (bA S0) H locs (zup (zup h (r + 1) (zI64 60 zJ0)) r (.inl (5, [.ref (r + 1), .int 0, .int (-1 : Int32), .int (-1 : Int32)]))) := hI
  have hI : zI G (r + 2) s (bA S0) H locs (i_Shelf_init r h) := hI
  exact b_vret X hI hG ⟨by have := hz.1; omega, by omega⟩ d_Shelf_init_22
-- Run
theorem d_Run_init_0 : decode prog_6_method_1_code 0 = .ok (.aload_n 0, 1) := by decide +kernel
theorem d_Run_init_1 : decode prog_6_method_1_code 1 = .ok (.invokespecial 3, 3) := by decide +kernel
theorem d_Run_init_4 : decode prog_6_method_1_code 4 = .ok (.aload_n 0, 1) := by decide +kernel
theorem d_Run_init_5 : decode prog_6_method_1_code 5 = .ok (.bipush 123, 2) := by decide +kernel
theorem d_Run_init_7 : decode prog_6_method_1_code 7 = .ok (.newarray .int, 2) := by decide +kernel
theorem d_Run_init_9 : decode prog_6_method_1_code 9 = .ok (.putfield 9, 3) := by decide +kernel
theorem d_Run_init_12 : decode prog_6_method_1_code 12 = .ok (.aload_n 0, 1) := by decide +kernel
theorem d_Run_init_13 : decode prog_6_method_1_code 13 = .ok (.new 15, 3) := by decide +kernel
theorem d_Run_init_16 : decode prog_6_method_1_code 16 = .ok (.dup, 1) := by decide +kernel
theorem d_Run_init_17 : decode prog_6_method_1_code 17 = .ok (.aload_n 1, 1) := by decide +kernel
theorem d_Run_init_18 : decode prog_6_method_1_code 18 = .ok (.invokespecial 17, 3) := by decide +kernel
theorem d_Run_init_21 : decode prog_6_method_1_code 21 = .ok (.putfield 20, 3) := by decide +kernel
theorem d_Run_init_24 : decode prog_6_method_1_code 24 = .ok (.return_, 1) := by decide +kernel
def i_Run_init (r : Nat) (u : Nat) (h : zH) : zH := zup (i_Rules_init (r + 2) u (zup (zup h (r + 1) (zI32 123 zZ0)) (r + 2) (.inl (3, [.null, .int 0, .int 0])))) r (.inl (4, [.ref (r + 2), .ref (r + 1), .int 0, .int 0, .int 0, .int 0]))
theorem i_Run_init_self {r u : Nat} {h : zH} : i_Run_init r u h r = (.inl (4, [.ref (r + 2), .ref (r + 1), .int 0, .int 0, .int 0, .int 0])) := zup_eq _ _ _
theorem i_Run_init_ne {r u k : Nat} {h : zH} (q : k < r ∨ r + 2 < k) : i_Run_init r u h k = h k := by
  unfold i_Run_init
  simp only [zup, zmul, i_Rules_init]
  repeat rw [if_neg (by omega)]
theorem i_Run_init_sw {G : zG} {s : State} {S0 r u a K1 K2 : Nat} {H : Heap} {locs : List Loc} {Y : zH} {e : zE} (ha : a < r) (hI : zI G K1 s (bA S0) H locs (i_Run_init r u (zup Y a e))) (hk : K1 = K2) : zI G K2 s (bA S0) H locs (zup (i_Run_init r u Y) a e) := by
  have : i_Run_init r u (zup Y a e) = zup (i_Run_init r u Y) a e := by
    funext k
    by_cases q : k = a
    · subst q
      rw [i_Run_init_ne (by omega), zup_eq, zup_eq]
    · rw [zup_ne q]
      unfold i_Run_init
      simp only [zup, zmul, i_Rules_init, if_neg q]
  rw [this, hk] at hI
  exact hI
set_option maxHeartbeats 4000000 in
set_option maxRecDepth 100000 in
theorem ci_Run_init (l : Launch) (G : zG) (S0 : Nat) (hG : bG1 G S0) (r : Nat) (u : Nat) (h : zH) (hr : h r = (.inl (4, [.null, .null, .int 0, .int 0, .int 0, .int 0]))) : bMt l G S0 (r + 1) y_Run_init prog_6_method_1_code 2 2 2 126 [.ref (G.1 r), .ref (G.1 u)] h (r + 3) (i_Run_init r u h) := by
  refine b_met (by decide +kernel) rfl (Nat.le_of_ble_eq_true rfl) hG fun p e s m below meth c ls X hX hin hz hI hl => ?_
  obtain ⟨hx, hb, hml, hown, hts, -, hlocks, hK, hST, hNs⟩ := id X
  have hl : lv_has ls 2 [(0, .ref (G.1 r)), (1, .ref (G.1 u))] := hl
  have hI : zI G (r + 1) s (bA S0) s.heap [] (zup h r (.inl (4, [.null, .null, .int 0, .int 0, .int 0, .int 0]))) := by rw [zup_self hr]; exact hI
  refine lv_aload_n hx hb d_Run_init_0 rfl (lv_at hl 0 rfl) ?_
  refine W.objInit hx hb hown (hts _ kw136) (hts _ kw18) (hts _ kw19) rfl (by rw [hml]; exact hl.1) rfl d_Run_init_1 (Nat.le_of_ble_eq_true rfl) (Nat.le_of_ble_eq_true rfl) ?_
  refine W.eq (g2 := F0 m 4 ls []) rfl ?_
  refine lv_aload_n hx hb d_Run_init_4 rfl (lv_at hl 0 rfl) ?_
  refine lv_bipush (v := (nI 123)) hx hb d_Run_init_5 (by decide) ?_
  refine b_newI X hI hG ⟨by have := hz.1; omega, by omega⟩ kw41 (N := 123) (by omega) (Nat.le_of_ble_eq_true rfl) (Nat.le_of_ble_eq_true rfl) d_Run_init_7 (fun H hI => ?_)
  replace hI := b_sw (K2 := (r + 2)) (by omega) hI rfl
  refine b_putF X hin hI P_Run_9 (v := .ref (r + 1)) (by simp) rfl rfl d_Run_init_9 (fun H locs hI => ?_)
  have hI : zI G (r + 2) s (bA S0) H locs (zup (zup h (r + 1) (zI32 123 zZ0)) r (.inl (4, [.null, .ref (r + 1), .int 0, .int 0, .int 0, .int 0]))) := hI
  refine lv_aload_n hx hb d_Run_init_12 rfl (lv_at hl 0 rfl) ?_
  refine b_newO (C := "AllHome$Rules") (T := nT3) (N := 3) (ci := 3) X hI hG ⟨by have := hz.1; omega, by omega⟩ rfl nI3 nY3 nP3 kw137 kw52 kw4 (fs := [.null, .int 0, .int 0]) (by decide) rfl (Nat.le_of_ble_eq_true rfl) (Nat.le_of_ble_eq_true rfl) d_Run_init_13 (fun H hI => ?_)
  replace hI := b_sw (K2 := (r + 3)) (by omega) hI rfl
  refine lv_dup hx hb d_Run_init_16 rfl ?_
  refine lv_aload_n hx hb d_Run_init_17 rfl (lv_at hl 1 rfl) ?_
  refine b_call (As := [.ref (G.1 u)]) (rest := [.ref (G.1 (r + 2)), .ref (G.1 r)]) X hX hI hG ⟨by have := hz.1; omega, by omega⟩ hl.1 (ci_Rules_init l G S0 hG (r + 2) u (zup (zup (zup h (r + 1) (zI32 123 zZ0)) (r + 2) (.inl (3, [.null, .int 0, .int 0]))) r (.inl (4, [.null, .ref (r + 1), .int 0, .int 0, .int 0, .int 0]))) (by rw [zup_ne (by omega), zup_eq])) J_Run_17 rfl (Nat.le_of_ble_eq_true rfl) ⟨(Nat.le_of_ble_eq_true rfl), (Nat.le_of_ble_eq_true rfl), (Nat.le_of_ble_eq_true rfl), (Nat.le_of_ble_eq_true rfl)⟩ rfl d_Run_init_18 (fun H locs hI => ?_)
  replace hI := i_Rules_init_sw (a := r) (K2 := (r + 3)) (by omega) hI rfl
  refine b_putF X hin hI P_Run_20 (v := .ref (r + 2)) (by simp) rfl rfl d_Run_init_21 (fun H locs hI => ?_)
  have hI : zI G (r + 3) s (bA S0) H locs (zup (i_Rules_init (r + 2) u (zup (zup h (r + 1) (zI32 123 zZ0)) (r + 2) (.inl (3, [.null, .int 0, .int 0])))) r (.inl (4, [.ref (r + 2), .ref (r + 1), .int 0, .int 0, .int 0, .int 0]))) := hI
  have hI : zI G (r + 3) s (bA S0) H locs (i_Run_init r u h) := hI
  exact b_vret X hI hG ⟨by have := hz.1; omega, by omega⟩ d_Run_init_24
-- Huts
theorem d_Huts_init_0 : decode prog_3_method_1_code 0 = .ok (.aload_n 0, 1) := by decide +kernel
theorem d_Huts_init_1 : decode prog_3_method_1_code 1 = .ok (.invokespecial 3, 3) := by decide +kernel
theorem d_Huts_init_4 : decode prog_3_method_1_code 4 = .ok (.aload_n 0, 1) := by decide +kernel
theorem d_Huts_init_5 : decode prog_3_method_1_code 5 = .ok (.bipush 6, 2) := by decide +kernel
theorem d_Huts_init_7 : decode prog_3_method_1_code 7 = .ok (.sipush 270, 3) := by decide +kernel
theorem d_Huts_init_10 : decode prog_3_method_1_code 10 = .ok (.multianewarray 11 2, 4) := by decide +kernel
theorem d_Huts_init_14 : decode prog_3_method_1_code 14 = .ok (.putfield 13, 3) := by decide +kernel
theorem d_Huts_init_17 : decode prog_3_method_1_code 17 = .ok (.aload_n 0, 1) := by decide +kernel
theorem d_Huts_init_18 : decode prog_3_method_1_code 18 = .ok (.bipush 6, 2) := by decide +kernel
theorem d_Huts_init_20 : decode prog_3_method_1_code 20 = .ok (.bipush 62, 2) := by decide +kernel
theorem d_Huts_init_22 : decode prog_3_method_1_code 22 = .ok (.multianewarray 11 2, 4) := by decide +kernel
theorem d_Huts_init_26 : decode prog_3_method_1_code 26 = .ok (.putfield 16, 3) := by decide +kernel
theorem d_Huts_init_29 : decode prog_3_method_1_code 29 = .ok (.aload_n 0, 1) := by decide +kernel
theorem d_Huts_init_30 : decode prog_3_method_1_code 30 = .ok (.bipush 6, 2) := by decide +kernel
theorem d_Huts_init_32 : decode prog_3_method_1_code 32 = .ok (.newarray .int, 2) := by decide +kernel
theorem d_Huts_init_34 : decode prog_3_method_1_code 34 = .ok (.putfield 19, 3) := by decide +kernel
theorem d_Huts_init_37 : decode prog_3_method_1_code 37 = .ok (.return_, 1) := by decide +kernel
def i_Huts_init (r : Nat) (h : zH) : zH := zup (zup (zmul (zmul h (r + 1) 6 270) (r + 8) 6 62) (r + 15) (zI32 6 zZ0)) r (.inl (1, [.ref (r + 1), .ref (r + 8), .ref (r + 15), .int 0]))
theorem i_Huts_init_self {r : Nat} {h : zH} : i_Huts_init r h r = (.inl (1, [.ref (r + 1), .ref (r + 8), .ref (r + 15), .int 0])) := zup_eq _ _ _
theorem i_Huts_init_ne {r k : Nat} {h : zH} (q : k < r ∨ r + 15 < k) : i_Huts_init r h k = h k := by
  unfold i_Huts_init
  simp only [zup, zmul]
  repeat rw [if_neg (by omega)]
theorem i_Huts_init_sw {G : zG} {s : State} {S0 r a K1 K2 : Nat} {H : Heap} {locs : List Loc} {Y : zH} {e : zE} (ha : a < r) (hI : zI G K1 s (bA S0) H locs (i_Huts_init r (zup Y a e))) (hk : K1 = K2) : zI G K2 s (bA S0) H locs (zup (i_Huts_init r Y) a e) := by
  have : i_Huts_init r (zup Y a e) = zup (i_Huts_init r Y) a e := by
    funext k
    by_cases q : k = a
    · subst q
      rw [i_Huts_init_ne (by omega), zup_eq, zup_eq]
    · rw [zup_ne q]
      unfold i_Huts_init
      simp only [zup, zmul, if_neg q]
  rw [this, hk] at hI
  exact hI
set_option maxHeartbeats 4000000 in
set_option maxRecDepth 100000 in
theorem ci_Huts_init (l : Launch) (G : zG) (S0 : Nat) (hG : bG1 G S0) (r : Nat) (h : zH) (hr : h r = (.inl (1, [.null, .null, .null, .int 0]))) : bMt l G S0 (r + 1) y_Huts_init prog_3_method_1_code 1 1 15 2010 [.ref (G.1 r)] h (r + 16) (i_Huts_init r h) := by
  refine b_met (by decide +kernel) rfl (Nat.le_of_ble_eq_true rfl) hG fun p e s m below meth c ls X hX hin hz hI hl => ?_
  obtain ⟨hx, hb, hml, hown, hts, -, hlocks, hK, hST, hNs⟩ := id X
  have hl : lv_has ls 1 [(0, .ref (G.1 r))] := hl
  have hI : zI G (r + 1) s (bA S0) s.heap [] (zup h r (.inl (1, [.null, .null, .null, .int 0]))) := by rw [zup_self hr]; exact hI
  refine lv_aload_n hx hb d_Huts_init_0 rfl (lv_at hl 0 rfl) ?_
  refine W.objInit hx hb hown (hts _ kw25) (hts _ kw18) (hts _ kw19) rfl (by rw [hml]; exact hl.1) rfl d_Huts_init_1 (Nat.le_of_ble_eq_true rfl) (Nat.le_of_ble_eq_true rfl) ?_
  refine W.eq (g2 := F0 m 4 ls []) rfl ?_
  refine lv_aload_n hx hb d_Huts_init_4 rfl (lv_at hl 0 rfl) ?_
  refine lv_bipush (v := (nI 6)) hx hb d_Huts_init_5 (by decide) ?_
  refine lv_sipush (v := (nI 270)) hx hb d_Huts_init_7 (by decide) ?_
  refine b_mul X hI hG ⟨by have := hz.1; omega, by omega⟩ kw26 hX.1 kw41 (N := 6) (M := 270) (by omega) (by omega) (Nat.le_of_ble_eq_true rfl) (Nat.le_of_ble_eq_true rfl) d_Huts_init_10 (fun H locs hI => ?_)
  replace hI := b_swm (K2 := (r + 8)) (by omega) hI rfl
  refine b_putF X hin hI P_Huts_13 (v := .ref (r + 1)) (by simp) rfl rfl d_Huts_init_14 (fun H locs hI => ?_)
  have hI : zI G (r + 8) s (bA S0) H locs (zup (zmul h (r + 1) 6 270) r (.inl (1, [.ref (r + 1), .null, .null, .int 0]))) := hI
  refine lv_aload_n hx hb d_Huts_init_17 rfl (lv_at hl 0 rfl) ?_
  refine lv_bipush (v := (nI 6)) hx hb d_Huts_init_18 (by decide) ?_
  refine lv_bipush (v := (nI 62)) hx hb d_Huts_init_20 (by decide) ?_
  refine b_mul X hI hG ⟨by have := hz.1; omega, by omega⟩ kw26 hX.1 kw41 (N := 6) (M := 62) (by omega) (by omega) (Nat.le_of_ble_eq_true rfl) (Nat.le_of_ble_eq_true rfl) d_Huts_init_22 (fun H locs hI => ?_)
  replace hI := b_swm (K2 := (r + 15)) (by omega) hI rfl
  refine b_putF X hin hI P_Huts_16 (v := .ref (r + 8)) (by simp) rfl rfl d_Huts_init_26 (fun H locs hI => ?_)
  have hI : zI G (r + 15) s (bA S0) H locs (zup (zmul (zmul h (r + 1) 6 270) (r + 8) 6 62) r (.inl (1, [.ref (r + 1), .ref (r + 8), .null, .int 0]))) := hI
  refine lv_aload_n hx hb d_Huts_init_29 rfl (lv_at hl 0 rfl) ?_
  refine lv_bipush (v := (nI 6)) hx hb d_Huts_init_30 (by decide) ?_
  refine b_newI X hI hG ⟨by have := hz.1; omega, by omega⟩ kw41 (N := 6) (by omega) (Nat.le_of_ble_eq_true rfl) (Nat.le_of_ble_eq_true rfl) d_Huts_init_32 (fun H hI => ?_)
  replace hI := b_sw (K2 := (r + 16)) (by omega) hI rfl
  refine b_putF X hin hI P_Huts_19 (v := .ref (r + 15)) (by simp) rfl rfl d_Huts_init_34 (fun H locs hI => ?_)
  have hI : zI G (r + 16) s (bA S0) H locs (zup (zup (zmul (zmul h (r + 1) 6 270) (r + 8) 6 62) (r + 15) (zI32 6 zZ0)) r (.inl (1, [.ref (r + 1), .ref (r + 8), .ref (r + 15), .int 0]))) := hI
  have hI : zI G (r + 16) s (bA S0) H locs (i_Huts_init r h) := hI
  exact b_vret X hI hG ⟨by have := hz.1; omega, by omega⟩ d_Huts_init_37
-- Orders
theorem d_Orders_init_0 : decode prog_4_method_1_code 0 = .ok (.aload_n 0, 1) := by decide +kernel
theorem d_Orders_init_1 : decode prog_4_method_1_code 1 = .ok (.invokespecial 5, 3) := by decide +kernel
theorem d_Orders_init_4 : decode prog_4_method_1_code 4 = .ok (.aload_n 0, 1) := by decide +kernel
theorem d_Orders_init_5 : decode prog_4_method_1_code 5 = .ok (.sipush 150, 3) := by decide +kernel
theorem d_Orders_init_8 : decode prog_4_method_1_code 8 = .ok (.bipush 123, 2) := by decide +kernel
theorem d_Orders_init_10 : decode prog_4_method_1_code 10 = .ok (.multianewarray 11 2, 4) := by decide +kernel
theorem d_Orders_init_14 : decode prog_4_method_1_code 14 = .ok (.putfield 13, 3) := by decide +kernel
theorem d_Orders_init_17 : decode prog_4_method_1_code 17 = .ok (.aload_n 0, 1) := by decide +kernel
theorem d_Orders_init_18 : decode prog_4_method_1_code 18 = .ok (.sipush 150, 3) := by decide +kernel
theorem d_Orders_init_21 : decode prog_4_method_1_code 21 = .ok (.newarray .int, 2) := by decide +kernel
theorem d_Orders_init_23 : decode prog_4_method_1_code 23 = .ok (.putfield 16, 3) := by decide +kernel
theorem d_Orders_init_26 : decode prog_4_method_1_code 26 = .ok (.aload_n 0, 1) := by decide +kernel
theorem d_Orders_init_27 : decode prog_4_method_1_code 27 = .ok (.sipush 150, 3) := by decide +kernel
theorem d_Orders_init_30 : decode prog_4_method_1_code 30 = .ok (.newarray .int, 2) := by decide +kernel
theorem d_Orders_init_32 : decode prog_4_method_1_code 32 = .ok (.putfield 20, 3) := by decide +kernel
theorem d_Orders_init_35 : decode prog_4_method_1_code 35 = .ok (.aload_n 0, 1) := by decide +kernel
theorem d_Orders_init_36 : decode prog_4_method_1_code 36 = .ok (.sipush 150, 3) := by decide +kernel
theorem d_Orders_init_39 : decode prog_4_method_1_code 39 = .ok (.newarray .int, 2) := by decide +kernel
theorem d_Orders_init_41 : decode prog_4_method_1_code 41 = .ok (.putfield 23, 3) := by decide +kernel
theorem d_Orders_init_44 : decode prog_4_method_1_code 44 = .ok (.aload_n 0, 1) := by decide +kernel
theorem d_Orders_init_45 : decode prog_4_method_1_code 45 = .ok (.sipush 150, 3) := by decide +kernel
theorem d_Orders_init_48 : decode prog_4_method_1_code 48 = .ok (.newarray .int, 2) := by decide +kernel
theorem d_Orders_init_50 : decode prog_4_method_1_code 50 = .ok (.putfield 26, 3) := by decide +kernel
theorem d_Orders_init_53 : decode prog_4_method_1_code 53 = .ok (.aload_n 0, 1) := by decide +kernel
theorem d_Orders_init_54 : decode prog_4_method_1_code 54 = .ok (.sipush 150, 3) := by decide +kernel
theorem d_Orders_init_57 : decode prog_4_method_1_code 57 = .ok (.bipush 21, 2) := by decide +kernel
theorem d_Orders_init_59 : decode prog_4_method_1_code 59 = .ok (.multianewarray 11 2, 4) := by decide +kernel
theorem d_Orders_init_63 : decode prog_4_method_1_code 63 = .ok (.putfield 29, 3) := by decide +kernel
theorem d_Orders_init_66 : decode prog_4_method_1_code 66 = .ok (.aload_n 0, 1) := by decide +kernel
theorem d_Orders_init_67 : decode prog_4_method_1_code 67 = .ok (.sipush 150, 3) := by decide +kernel
theorem d_Orders_init_70 : decode prog_4_method_1_code 70 = .ok (.newarray .int, 2) := by decide +kernel
theorem d_Orders_init_72 : decode prog_4_method_1_code 72 = .ok (.putfield 32, 3) := by decide +kernel
theorem d_Orders_init_75 : decode prog_4_method_1_code 75 = .ok (.aload_n 0, 1) := by decide +kernel
theorem d_Orders_init_76 : decode prog_4_method_1_code 76 = .ok (.sipush 150, 3) := by decide +kernel
theorem d_Orders_init_79 : decode prog_4_method_1_code 79 = .ok (.newarray .boolean, 2) := by decide +kernel
theorem d_Orders_init_81 : decode prog_4_method_1_code 81 = .ok (.putfield 35, 3) := by decide +kernel
theorem d_Orders_init_84 : decode prog_4_method_1_code 84 = .ok (.aload_n 0, 1) := by decide +kernel
theorem d_Orders_init_85 : decode prog_4_method_1_code 85 = .ok (.bipush 123, 2) := by decide +kernel
theorem d_Orders_init_87 : decode prog_4_method_1_code 87 = .ok (.newarray .int, 2) := by decide +kernel
theorem d_Orders_init_89 : decode prog_4_method_1_code 89 = .ok (.putfield 39, 3) := by decide +kernel
theorem d_Orders_init_92 : decode prog_4_method_1_code 92 = .ok (.aload_n 0, 1) := by decide +kernel
theorem d_Orders_init_93 : decode prog_4_method_1_code 93 = .ok (.iconst (-1), 1) := by decide +kernel
theorem d_Orders_init_94 : decode prog_4_method_1_code 94 = .ok (.putfield 42, 3) := by decide +kernel
theorem d_Orders_init_97 : decode prog_4_method_1_code 97 = .ok (.aload_n 0, 1) := by decide +kernel
theorem d_Orders_init_98 : decode prog_4_method_1_code 98 = .ok (.aload_n 1, 1) := by decide +kernel
theorem d_Orders_init_99 : decode prog_4_method_1_code 99 = .ok (.putfield 46, 3) := by decide +kernel
theorem d_Orders_init_102 : decode prog_4_method_1_code 102 = .ok (.aload_n 0, 1) := by decide +kernel
theorem d_Orders_init_103 : decode prog_4_method_1_code 103 = .ok (.new 50, 3) := by decide +kernel
theorem d_Orders_init_106 : decode prog_4_method_1_code 106 = .ok (.dup, 1) := by decide +kernel
theorem d_Orders_init_107 : decode prog_4_method_1_code 107 = .ok (.aload_n 1, 1) := by decide +kernel
theorem d_Orders_init_108 : decode prog_4_method_1_code 108 = .ok (.invokespecial 52, 3) := by decide +kernel
theorem d_Orders_init_111 : decode prog_4_method_1_code 111 = .ok (.putfield 55, 3) := by decide +kernel
theorem d_Orders_init_114 : decode prog_4_method_1_code 114 = .ok (.return_, 1) := by decide +kernel
def i_Orders_init (r : Nat) (u : Nat) (h : zH) : zH := zup (i_Rules_init (r + 310) u (zup (zup (zup (zup (zmul (zup (zup (zup (zup (zmul h (r + 1) 150 123) (r + 152) (zI32 150 zZ0)) (r + 153) (zI32 150 zZ0)) (r + 154) (zI32 150 zZ0)) (r + 155) (zI32 150 zZ0)) (r + 156) 150 21) (r + 307) (zI32 150 zZ0)) (r + 308) (zI1 150 zZ0)) (r + 309) (zI32 123 zZ0)) (r + 310) (.inl (3, [.null, .int 0, .int 0])))) r (.inl (2, [.ref u, .ref (r + 310), .ref (r + 1), .ref (r + 152), .ref (r + 153), .ref (r + 154), .ref (r + 155), .ref (r + 156), .ref (r + 307), .ref (r + 308), .ref (r + 309), .int 0, .int 0, .int (-1 : Int32)]))
theorem i_Orders_init_self {r u : Nat} {h : zH} : i_Orders_init r u h r = (.inl (2, [.ref u, .ref (r + 310), .ref (r + 1), .ref (r + 152), .ref (r + 153), .ref (r + 154), .ref (r + 155), .ref (r + 156), .ref (r + 307), .ref (r + 308), .ref (r + 309), .int 0, .int 0, .int (-1 : Int32)])) := zup_eq _ _ _
theorem i_Orders_init_ne {r u k : Nat} {h : zH} (q : k < r ∨ r + 310 < k) : i_Orders_init r u h k = h k := by
  unfold i_Orders_init
  simp only [zup, zmul, i_Rules_init]
  repeat rw [if_neg (by omega)]
theorem i_Orders_init_sw {G : zG} {s : State} {S0 r u a K1 K2 : Nat} {H : Heap} {locs : List Loc} {Y : zH} {e : zE} (ha : a < r) (hI : zI G K1 s (bA S0) H locs (i_Orders_init r u (zup Y a e))) (hk : K1 = K2) : zI G K2 s (bA S0) H locs (zup (i_Orders_init r u Y) a e) := by
  have : i_Orders_init r u (zup Y a e) = zup (i_Orders_init r u Y) a e := by
    funext k
    by_cases q : k = a
    · subst q
      rw [i_Orders_init_ne (by omega), zup_eq, zup_eq]
    · rw [zup_ne q]
      unfold i_Orders_init
      simp only [zup, zmul, i_Rules_init, if_neg q]
  rw [this, hk] at hI
  exact hI
set_option maxHeartbeats 4000000 in
set_option maxRecDepth 100000 in
theorem ci_Orders_init (l : Launch) (G : zG) (S0 : Nat) (hG : bG1 G S0) (r : Nat) (u : Nat) (h : zH) (hr : h r = (.inl (2, [.null, .null, .null, .null, .null, .null, .null, .null, .null, .null, .null, .int 0, .int 0, .int 0]))) : bMt l G S0 (r + 1) y_Orders_init prog_4_method_1_code 2 2 310 22926 [.ref (G.1 r), .ref (G.1 u)] h (r + 311) (i_Orders_init r u h) := by
  refine b_met (by decide +kernel) rfl (Nat.le_of_ble_eq_true rfl) hG fun p e s m below meth c ls X hX hin hz hI hl => ?_
  obtain ⟨hx, hb, hml, hown, hts, -, hlocks, hK, hST, hNs⟩ := id X
  have hl : lv_has ls 2 [(0, .ref (G.1 r)), (1, .ref (G.1 u))] := hl
  have hI : zI G (r + 1) s (bA S0) s.heap [] (zup h r (.inl (2, [.null, .null, .null, .null, .null, .null, .null, .null, .null, .null, .null, .int 0, .int 0, .int 0]))) := by rw [zup_self hr]; exact hI
  refine lv_aload_n hx hb d_Orders_init_0 rfl (lv_at hl 0 rfl) ?_
  refine W.objInit hx hb hown (hts _ kw49) (hts _ kw18) (hts _ kw19) rfl (by rw [hml]; exact hl.1) rfl d_Orders_init_1 (Nat.le_of_ble_eq_true rfl) (Nat.le_of_ble_eq_true rfl) ?_
  refine W.eq (g2 := F0 m 4 ls []) rfl ?_
  refine lv_aload_n hx hb d_Orders_init_4 rfl (lv_at hl 0 rfl) ?_
  refine lv_sipush (v := (nI 150)) hx hb d_Orders_init_5 (by decide) ?_
  refine lv_bipush (v := (nI 123)) hx hb d_Orders_init_8 (by decide) ?_
  refine b_mul X hI hG ⟨by have := hz.1; omega, by omega⟩ kw50 hX.1 kw41 (N := 150) (M := 123) (by omega) (by omega) (Nat.le_of_ble_eq_true rfl) (Nat.le_of_ble_eq_true rfl) d_Orders_init_10 (fun H locs hI => ?_)
  replace hI := b_swm (K2 := (r + 152)) (by omega) hI rfl
  refine b_putF X hin hI P_Orders_13 (v := .ref (r + 1)) (by simp) rfl rfl d_Orders_init_14 (fun H locs hI => ?_)
  have hI : zI G (r + 152) s (bA S0) H locs (zup (zmul h (r + 1) 150 123) r (.inl (2, [.null, .null, .ref (r + 1), .null, .null, .null, .null, .null, .null, .null, .null, .int 0, .int 0, .int 0]))) := hI
  refine lv_aload_n hx hb d_Orders_init_17 rfl (lv_at hl 0 rfl) ?_
  refine lv_sipush (v := (nI 150)) hx hb d_Orders_init_18 (by decide) ?_
  refine b_newI X hI hG ⟨by have := hz.1; omega, by omega⟩ kw41 (N := 150) (by omega) (Nat.le_of_ble_eq_true rfl) (Nat.le_of_ble_eq_true rfl) d_Orders_init_21 (fun H hI => ?_)
  replace hI := b_sw (K2 := (r + 153)) (by omega) hI rfl
  refine b_putF X hin hI P_Orders_16 (v := .ref (r + 152)) (by simp) rfl rfl d_Orders_init_23 (fun H locs hI => ?_)
  have hI : zI G (r + 153) s (bA S0) H locs (zup (zup (zmul h (r + 1) 150 123) (r + 152) (zI32 150 zZ0)) r (.inl (2, [.null, .null, .ref (r + 1), .ref (r + 152), .null, .null, .null, .null, .null, .null, .null, .int 0, .int 0, .int 0]))) := hI
  refine lv_aload_n hx hb d_Orders_init_26 rfl (lv_at hl 0 rfl) ?_
  refine lv_sipush (v := (nI 150)) hx hb d_Orders_init_27 (by decide) ?_
  refine b_newI X hI hG ⟨by have := hz.1; omega, by omega⟩ kw41 (N := 150) (by omega) (Nat.le_of_ble_eq_true rfl) (Nat.le_of_ble_eq_true rfl) d_Orders_init_30 (fun H hI => ?_)
  replace hI := b_sw (K2 := (r + 154)) (by omega) hI rfl
  refine b_putF X hin hI P_Orders_20 (v := .ref (r + 153)) (by simp) rfl rfl d_Orders_init_32 (fun H locs hI => ?_)
  have hI : zI G (r + 154) s (bA S0) H locs (zup (zup (zup (zmul h (r + 1) 150 123) (r + 152) (zI32 150 zZ0)) (r + 153) (zI32 150 zZ0)) r (.inl (2, [.null, .null, .ref (r + 1), .ref (r + 152), .ref (r + 153), .null, .null, .null, .null, .null, .null, .int 0, .int 0, .int 0]))) := hI
  refine lv_aload_n hx hb d_Orders_init_35 rfl (lv_at hl 0 rfl) ?_
  refine lv_sipush (v := (nI 150)) hx hb d_Orders_init_36 (by decide) ?_
  refine b_newI X hI hG ⟨by have := hz.1; omega, by omega⟩ kw41 (N := 150) (by omega) (Nat.le_of_ble_eq_true rfl) (Nat.le_of_ble_eq_true rfl) d_Orders_init_39 (fun H hI => ?_)
  replace hI := b_sw (K2 := (r + 155)) (by omega) hI rfl
  refine b_putF X hin hI P_Orders_23 (v := .ref (r + 154)) (by simp) rfl rfl d_Orders_init_41 (fun H locs hI => ?_)
  have hI : zI G (r + 155) s (bA S0) H locs (zup (zup (zup (zup (zmul h (r + 1) 150 123) (r + 152) (zI32 150 zZ0)) (r + 153) (zI32 150 zZ0)) (r + 154) (zI32 150 zZ0)) r (.inl (2, [.null, .null, .ref (r + 1), .ref (r + 152), .ref (r + 153), .ref (r + 154), .null, .null, .null, .null, .null, .int 0, .int 0, .int 0]))) := hI
  refine lv_aload_n hx hb d_Orders_init_44 rfl (lv_at hl 0 rfl) ?_
  refine lv_sipush (v := (nI 150)) hx hb d_Orders_init_45 (by decide) ?_
  refine b_newI X hI hG ⟨by have := hz.1; omega, by omega⟩ kw41 (N := 150) (by omega) (Nat.le_of_ble_eq_true rfl) (Nat.le_of_ble_eq_true rfl) d_Orders_init_48 (fun H hI => ?_)
  replace hI := b_sw (K2 := (r + 156)) (by omega) hI rfl
  refine b_putF X hin hI P_Orders_26 (v := .ref (r + 155)) (by simp) rfl rfl d_Orders_init_50 (fun H locs hI => ?_)
  have hI : zI G (r + 156) s (bA S0) H locs (zup (zup (zup (zup (zup (zmul h (r + 1) 150 123) (r + 152) (zI32 150 zZ0)) (r + 153) (zI32 150 zZ0)) (r + 154) (zI32 150 zZ0)) (r + 155) (zI32 150 zZ0)) r (.inl (2, [.null, .null, .ref (r + 1), .ref (r + 152), .ref (r + 153), .ref (r + 154), .ref (r + 155), .null, .null, .null, .null, .int 0, .int 0, .int 0]))) := hI
  refine lv_aload_n hx hb d_Orders_init_53 rfl (lv_at hl 0 rfl) ?_
  refine lv_sipush (v := (nI 150)) hx hb d_Orders_init_54 (by decide) ?_
  refine lv_bipush (v := (nI 21)) hx hb d_Orders_init_57 (by decide) ?_
  refine b_mul X hI hG ⟨by have := hz.1; omega, by omega⟩ kw50 hX.1 kw41 (N := 150) (M := 21) (by omega) (by omega) (Nat.le_of_ble_eq_true rfl) (Nat.le_of_ble_eq_true rfl) d_Orders_init_59 (fun H locs hI => ?_)
  replace hI := b_swm (K2 := (r + 307)) (by omega) hI rfl
  refine b_putF X hin hI P_Orders_29 (v := .ref (r + 156)) (by simp) rfl rfl d_Orders_init_63 (fun H locs hI => ?_)
  have hI : zI G (r + 307) s (bA S0) H locs (zup (zmul (zup (zup (zup (zup (zmul h (r + 1) 150 123) (r + 152) (zI32 150 zZ0)) (r + 153) (zI32 150 zZ0)) (r + 154) (zI32 150 zZ0)) (r + 155) (zI32 150 zZ0)) (r + 156) 150 21) r (.inl (2, [.null, .null, .ref (r + 1), .ref (r + 152), .ref (r + 153), .ref (r + 154), .ref (r + 155), .ref (r + 156), .null, .null, .null, .int 0, .int 0, .int 0]))) := hI
  refine lv_aload_n hx hb d_Orders_init_66 rfl (lv_at hl 0 rfl) ?_
  refine lv_sipush (v := (nI 150)) hx hb d_Orders_init_67 (by decide) ?_
  refine b_newI X hI hG ⟨by have := hz.1; omega, by omega⟩ kw41 (N := 150) (by omega) (Nat.le_of_ble_eq_true rfl) (Nat.le_of_ble_eq_true rfl) d_Orders_init_70 (fun H hI => ?_)
  replace hI := b_sw (K2 := (r + 308)) (by omega) hI rfl
  refine b_putF X hin hI P_Orders_32 (v := .ref (r + 307)) (by simp) rfl rfl d_Orders_init_72 (fun H locs hI => ?_)
  have hI : zI G (r + 308) s (bA S0) H locs (zup (zup (zmul (zup (zup (zup (zup (zmul h (r + 1) 150 123) (r + 152) (zI32 150 zZ0)) (r + 153) (zI32 150 zZ0)) (r + 154) (zI32 150 zZ0)) (r + 155) (zI32 150 zZ0)) (r + 156) 150 21) (r + 307) (zI32 150 zZ0)) r (.inl (2, [.null, .null, .ref (r + 1), .ref (r + 152), .ref (r + 153), .ref (r + 154), .ref (r + 155), .ref (r + 156), .ref (r + 307), .null, .null, .int 0, .int 0, .int 0]))) := hI
  refine lv_aload_n hx hb d_Orders_init_75 rfl (lv_at hl 0 rfl) ?_
  refine lv_sipush (v := (nI 150)) hx hb d_Orders_init_76 (by decide) ?_
  refine b_newZ X hI hG ⟨by have := hz.1; omega, by omega⟩ kw67 (N := 150) (by omega) (Nat.le_of_ble_eq_true rfl) (Nat.le_of_ble_eq_true rfl) d_Orders_init_79 (fun H hI => ?_)
  replace hI := b_sw (K2 := (r + 309)) (by omega) hI rfl
  refine b_putF X hin hI P_Orders_35 (v := .ref (r + 308)) (by simp) rfl rfl d_Orders_init_81 (fun H locs hI => ?_)
  have hI : zI G (r + 309) s (bA S0) H locs (zup (zup (zup (zmul (zup (zup (zup (zup (zmul h (r + 1) 150 123) (r + 152) (zI32 150 zZ0)) (r + 153) (zI32 150 zZ0)) (r + 154) (zI32 150 zZ0)) (r + 155) (zI32 150 zZ0)) (r + 156) 150 21) (r + 307) (zI32 150 zZ0)) (r + 308) (zI1 150 zZ0)) r (.inl (2, [.null, .null, .ref (r + 1), .ref (r + 152), .ref (r + 153), .ref (r + 154), .ref (r + 155), .ref (r + 156), .ref (r + 307), .ref (r + 308), .null, .int 0, .int 0, .int 0]))) := hI
  refine lv_aload_n hx hb d_Orders_init_84 rfl (lv_at hl 0 rfl) ?_
  refine lv_bipush (v := (nI 123)) hx hb d_Orders_init_85 (by decide) ?_
  refine b_newI X hI hG ⟨by have := hz.1; omega, by omega⟩ kw41 (N := 123) (by omega) (Nat.le_of_ble_eq_true rfl) (Nat.le_of_ble_eq_true rfl) d_Orders_init_87 (fun H hI => ?_)
  replace hI := b_sw (K2 := (r + 310)) (by omega) hI rfl
  refine b_putF X hin hI P_Orders_39 (v := .ref (r + 309)) (by simp) rfl rfl d_Orders_init_89 (fun H locs hI => ?_)
  have hI : zI G (r + 310) s (bA S0) H locs (zup (zup (zup (zup (zmul (zup (zup (zup (zup (zmul h (r + 1) 150 123) (r + 152) (zI32 150 zZ0)) (r + 153) (zI32 150 zZ0)) (r + 154) (zI32 150 zZ0)) (r + 155) (zI32 150 zZ0)) (r + 156) 150 21) (r + 307) (zI32 150 zZ0)) (r + 308) (zI1 150 zZ0)) (r + 309) (zI32 123 zZ0)) r (.inl (2, [.null, .null, .ref (r + 1), .ref (r + 152), .ref (r + 153), .ref (r + 154), .ref (r + 155), .ref (r + 156), .ref (r + 307), .ref (r + 308), .ref (r + 309), .int 0, .int 0, .int 0]))) := hI
  refine lv_aload_n hx hb d_Orders_init_92 rfl (lv_at hl 0 rfl) ?_
  refine lv_iconst (v := (-1 : Int32)) hx hb d_Orders_init_93 (by decide) ?_
  refine b_putV X hI P_Orders_42 (v := .int (-1 : Int32)) (by simp) rfl rfl d_Orders_init_94 (fun H locs hI => ?_)
  have hI : zI G (r + 310) s (bA S0) H locs (zup (zup (zup (zup (zmul (zup (zup (zup (zup (zmul h (r + 1) 150 123) (r + 152) (zI32 150 zZ0)) (r + 153) (zI32 150 zZ0)) (r + 154) (zI32 150 zZ0)) (r + 155) (zI32 150 zZ0)) (r + 156) 150 21) (r + 307) (zI32 150 zZ0)) (r + 308) (zI1 150 zZ0)) (r + 309) (zI32 123 zZ0)) r (.inl (2, [.null, .null, .ref (r + 1), .ref (r + 152), .ref (r + 153), .ref (r + 154), .ref (r + 155), .ref (r + 156), .ref (r + 307), .ref (r + 308), .ref (r + 309), .int 0, .int 0, .int (-1 : Int32)]))) := hI
  refine lv_aload_n hx hb d_Orders_init_97 rfl (lv_at hl 0 rfl) ?_
  refine lv_aload_n hx hb d_Orders_init_98 rfl (lv_at hl 1 rfl) ?_
  refine b_putF X hin hI P_Orders_46 (v := .ref u) (by simp) rfl rfl d_Orders_init_99 (fun H locs hI => ?_)
  have hI : zI G (r + 310) s (bA S0) H locs (zup (zup (zup (zup (zmul (zup (zup (zup (zup (zmul h (r + 1) 150 123) (r + 152) (zI32 150 zZ0)) (r + 153) (zI32 150 zZ0)) (r + 154) (zI32 150 zZ0)) (r + 155) (zI32 150 zZ0)) (r + 156) 150 21) (r + 307) (zI32 150 zZ0)) (r + 308) (zI1 150 zZ0)) (r + 309) (zI32 123 zZ0)) r (.inl (2, [.ref u, .null, .ref (r + 1), .ref (r + 152), .ref (r + 153), .ref (r + 154), .ref (r + 155), .ref (r + 156), .ref (r + 307), .ref (r + 308), .ref (r + 309), .int 0, .int 0, .int (-1 : Int32)]))) := hI
  refine lv_aload_n hx hb d_Orders_init_102 rfl (lv_at hl 0 rfl) ?_
  refine b_newO (C := "AllHome$Rules") (T := nT3) (N := 3) (ci := 3) X hI hG ⟨by have := hz.1; omega, by omega⟩ rfl nI3 nY3 nP3 kw51 kw52 kw4 (fs := [.null, .int 0, .int 0]) (by decide) rfl (Nat.le_of_ble_eq_true rfl) (Nat.le_of_ble_eq_true rfl) d_Orders_init_103 (fun H hI => ?_)
  replace hI := b_sw (K2 := (r + 311)) (by omega) hI rfl
  refine lv_dup hx hb d_Orders_init_106 rfl ?_
  refine lv_aload_n hx hb d_Orders_init_107 rfl (lv_at hl 1 rfl) ?_
  refine b_call (As := [.ref (G.1 u)]) (rest := [.ref (G.1 (r + 310)), .ref (G.1 r)]) X hX hI hG ⟨by have := hz.1; omega, by omega⟩ hl.1 (ci_Rules_init l G S0 hG (r + 310) u (zup (zup (zup (zup (zup (zmul (zup (zup (zup (zup (zmul h (r + 1) 150 123) (r + 152) (zI32 150 zZ0)) (r + 153) (zI32 150 zZ0)) (r + 154) (zI32 150 zZ0)) (r + 155) (zI32 150 zZ0)) (r + 156) 150 21) (r + 307) (zI32 150 zZ0)) (r + 308) (zI1 150 zZ0)) (r + 309) (zI32 123 zZ0)) (r + 310) (.inl (3, [.null, .int 0, .int 0]))) r (.inl (2, [.ref u, .null, .ref (r + 1), .ref (r + 152), .ref (r + 153), .ref (r + 154), .ref (r + 155), .ref (r + 156), .ref (r + 307), .ref (r + 308), .ref (r + 309), .int 0, .int 0, .int (-1 : Int32)]))) (by rw [zup_ne (by omega), zup_eq])) J_Orders_52 rfl (Nat.le_of_ble_eq_true rfl) ⟨(Nat.le_of_ble_eq_true rfl), (Nat.le_of_ble_eq_true rfl), (Nat.le_of_ble_eq_true rfl), (Nat.le_of_ble_eq_true rfl)⟩ rfl d_Orders_init_108 (fun H locs hI => ?_)
  replace hI := i_Rules_init_sw (a := r) (K2 := (r + 311)) (by omega) hI rfl
  refine b_putF X hin hI P_Orders_55 (v := .ref (r + 310)) (by simp) rfl rfl d_Orders_init_111 (fun H locs hI => ?_)
  have hI : zI G (r + 311) s (bA S0) H locs (zup (i_Rules_init (r + 310) u (zup (zup (zup (zup (zmul (zup (zup (zup (zup (zmul h (r + 1) 150 123) (r + 152) (zI32 150 zZ0)) (r + 153) (zI32 150 zZ0)) (r + 154) (zI32 150 zZ0)) (r + 155) (zI32 150 zZ0)) (r + 156) 150 21) (r + 307) (zI32 150 zZ0)) (r + 308) (zI1 150 zZ0)) (r + 309) (zI32 123 zZ0)) (r + 310) (.inl (3, [.null, .int 0, .int 0])))) r (.inl (2, [.ref u, .ref (r + 310), .ref (r + 1), .ref (r + 152), .ref (r + 153), .ref (r + 154), .ref (r + 155), .ref (r + 156), .ref (r + 307), .ref (r + 308), .ref (r + 309), .int 0, .int 0, .int (-1 : Int32)]))) := hI
  have hI : zI G (r + 311) s (bA S0) H locs (i_Orders_init r u h) := hI
  exact b_vret X hI hG ⟨by have := hz.1; omega, by omega⟩ d_Orders_init_114
