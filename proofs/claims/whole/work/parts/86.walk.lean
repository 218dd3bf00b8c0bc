-- walk of AllHome$Shelf.isRow
theorem d_Shelf_isRow_0 : decode prog_7_method_5_code 0 = .ok (.aload_n 0, 1) := by decide +kernel
theorem d_Shelf_isRow_1 : decode prog_7_method_5_code 1 = .ok (.getfield 15, 3) := by decide +kernel
theorem d_Shelf_isRow_4 : decode prog_7_method_5_code 4 = .ok (.iconst (-1), 1) := by decide +kernel
theorem d_Shelf_isRow_5 : decode prog_7_method_5_code 5 = .ok (.if_icmp .eq 7, 3) := by decide +kernel
theorem d_Shelf_isRow_8 : decode prog_7_method_5_code 8 = .ok (.iconst 1, 1) := by decide +kernel
theorem d_Shelf_isRow_9 : decode prog_7_method_5_code 9 = .ok (.goto 4, 3) := by decide +kernel
theorem d_Shelf_isRow_12 : decode prog_7_method_5_code 12 = .ok (.iconst 0, 1) := by decide +kernel
theorem d_Shelf_isRow_13 : decode prog_7_method_5_code 13 = .ok (.ireturn, 1) := by decide +kernel
set_option maxHeartbeats 4000000 in
set_option maxRecDepth 100000 in
theorem r_Shelf_isRow_0 {p : Program} {l : Launch} {e : Env} {s : State} {m : MethodId} {args : Array Value} {below : List Frame} {meth : Method} {c : Code} {G : zG} {K : Nat} (X : zX p s m args meth c "AllHome$Shelf" prog_7_method_5_code 1 (some .boolean) G (zA G K)) {r : Int32} (a0 : Nat) (h : zH) (hm : m_Shelf_isRow a0 h = some r) {H : Heap} {locs : List Loc} {ls : Array Slot} (hI : zI G K s (zA G K) H locs h) (hl : lv_has ls 1 [(0, .ref (G.1 a0))]) : W p l e (zR 0) s m args below meth c H locs 0 0 (MQ below (zQi G K r h) args s 0 0 (zA G K)) (F0 m 0 ls []) := by
  obtain ⟨hx, hb, hml, hown, hts, hr, hlocks, hK, hST, hNs⟩ := id X
  unfold m_Shelf_isRow at hm
  refine lv_aload_n hx hb d_Shelf_isRow_0 rfl (lv_at hl 0 rfl) ?_
  obtain ⟨v1, hv, hm⟩ := zbd hm
  refine z_getI X hI F_Shelf_15 hv d_Shelf_isRow_1 ?_
  refine lv_iconst (v := (-1 : Int32)) hx hb d_Shelf_isRow_4 (by decide) ?_
  refine lv_icmp_eq (tgt := 12) hx hb d_Shelf_isRow_5 (by decide) (fun hc5 => ?_) (fun hc5 => ?_)
  · replace hm := zif_t hc5 hm
    refine lv_iconst (v := (nI 0)) hx hb d_Shelf_isRow_12 (by decide) ?_
    obtain rfl := zs1 hm
    exact z_zret X hI (by decide) d_Shelf_isRow_13
  · replace hm := zif_f hc5 hm
    refine lv_iconst (v := (nI 1)) hx hb d_Shelf_isRow_8 (by decide) ?_
    refine lv_goto (tgt := 13) hx hb d_Shelf_isRow_9 (by decide) ?_
    obtain rfl := zs1 hm
    exact z_zret X hI (by decide) d_Shelf_isRow_13
set_option maxHeartbeats 4000000 in
set_option maxRecDepth 100000 in
theorem c_Shelf_isRow (l : Launch) (G : zG) (K : Nat) (a0 : Nat) (h : zH) (r : Int32) (hm : m_Shelf_isRow a0 h = some r) : zMz l G K y_Shelf_isRow prog_7_method_5_code 1 0 [.ref (G.1 a0)] h r h := zMet (by decide +kernel) (Nat.le_of_ble_eq_true rfl) (fun p e s m below meth c ls X hI hl => r_Shelf_isRow_0 X a0 h hm hI hl)
-- walk of AllHome.wantPlace
theorem d_Home_wantPlace_0 : decode prog_1_method_35_code 0 = .ok (.iload_n 1, 1) := by decide +kernel
theorem d_Home_wantPlace_1 : decode prog_1_method_35_code 1 = .ok (.invokestatic 113, 3) := by decide +kernel
theorem d_Home_wantPlace_4 : decode prog_1_method_35_code 4 = .ok (.ifCond .ne 5, 3) := by decide +kernel
theorem d_Home_wantPlace_7 : decode prog_1_method_35_code 7 = .ok (.iconst (-1), 1) := by decide +kernel
theorem d_Home_wantPlace_8 : decode prog_1_method_35_code 8 = .ok (.ireturn, 1) := by decide +kernel
theorem d_Home_wantPlace_9 : decode prog_1_method_35_code 9 = .ok (.aload_n 0, 1) := by decide +kernel
theorem d_Home_wantPlace_10 : decode prog_1_method_35_code 10 = .ok (.getfield 53, 3) := by decide +kernel
theorem d_Home_wantPlace_13 : decode prog_1_method_35_code 13 = .ok (.iload_n 1, 1) := by decide +kernel
theorem d_Home_wantPlace_14 : decode prog_1_method_35_code 14 = .ok (.aaload, 1) := by decide +kernel
theorem d_Home_wantPlace_15 : decode prog_1_method_35_code 15 = .ok (.invokevirtual 116, 3) := by decide +kernel
theorem d_Home_wantPlace_18 : decode prog_1_method_35_code 18 = .ok (.ifCond .eq 6, 3) := by decide +kernel
theorem d_Home_wantPlace_21 : decode prog_1_method_35_code 21 = .ok (.bipush (-11), 2) := by decide +kernel
theorem d_Home_wantPlace_23 : decode prog_1_method_35_code 23 = .ok (.ireturn, 1) := by decide +kernel
theorem d_Home_wantPlace_24 : decode prog_1_method_35_code 24 = .ok (.aload_n 0, 1) := by decide +kernel
theorem d_Home_wantPlace_25 : decode prog_1_method_35_code 25 = .ok (.getfield 53, 3) := by decide +kernel
theorem d_Home_wantPlace_28 : decode prog_1_method_35_code 28 = .ok (.iload_n 1, 1) := by decide +kernel
theorem d_Home_wantPlace_29 : decode prog_1_method_35_code 29 = .ok (.aaload, 1) := by decide +kernel
theorem d_Home_wantPlace_30 : decode prog_1_method_35_code 30 = .ok (.invokevirtual 201, 3) := by decide +kernel
theorem d_Home_wantPlace_33 : decode prog_1_method_35_code 33 = .ok (.ifCond .ne 6, 3) := by decide +kernel
theorem d_Home_wantPlace_36 : decode prog_1_method_35_code 36 = .ok (.bipush (-12), 2) := by decide +kernel
theorem d_Home_wantPlace_38 : decode prog_1_method_35_code 38 = .ok (.ireturn, 1) := by decide +kernel
theorem d_Home_wantPlace_39 : decode prog_1_method_35_code 39 = .ok (.aload_n 0, 1) := by decide +kernel
theorem d_Home_wantPlace_40 : decode prog_1_method_35_code 40 = .ok (.getfield 53, 3) := by decide +kernel
theorem d_Home_wantPlace_43 : decode prog_1_method_35_code 43 = .ok (.iload_n 1, 1) := by decide +kernel
theorem d_Home_wantPlace_44 : decode prog_1_method_35_code 44 = .ok (.aaload, 1) := by decide +kernel
theorem d_Home_wantPlace_45 : decode prog_1_method_35_code 45 = .ok (.iload_n 2, 1) := by decide +kernel
theorem d_Home_wantPlace_46 : decode prog_1_method_35_code 46 = .ok (.invokevirtual 123, 3) := by decide +kernel
theorem d_Home_wantPlace_49 : decode prog_1_method_35_code 49 = .ok (.ifCond .eq 7, 3) := by decide +kernel
theorem d_Home_wantPlace_52 : decode prog_1_method_35_code 52 = .ok (.iconst 1, 1) := by decide +kernel
theorem d_Home_wantPlace_53 : decode prog_1_method_35_code 53 = .ok (.goto 5, 3) := by decide +kernel
theorem d_Home_wantPlace_56 : decode prog_1_method_35_code 56 = .ok (.bipush (-13), 2) := by decide +kernel
theorem d_Home_wantPlace_58 : decode prog_1_method_35_code 58 = .ok (.ireturn, 1) := by decide +kernel
set_option maxHeartbeats 4000000 in
set_option maxRecDepth 100000 in
theorem r_Home_wantPlace_0 {p : Program} {l : Launch} {e : Env} {s : State} {m : MethodId} {args : Array Value} {below : List Frame} {meth : Method} {c : Code} {G : zG} {K : Nat} (X : zX p s m args meth c "AllHome" prog_1_method_35_code 3 (some .int) G (zA G K)) {r : Int32} (a0 : Nat) (x1 : Int32) (x2 : Int32) (h : zH) (hm : m_Home_wantPlace a0 x1 x2 h = some r) {H : Heap} {locs : List Loc} {ls : Array Slot} (hI : zI G K s (zA G K) H locs h) (hl : lv_has ls 3 [(0, .ref (G.1 a0)), (1, .int x1), (2, .int x2)]) : W p l e (zR 1) s m args below meth c H locs 0 0 (MQ below (zQi G K r h) args s 0 0 (zA G K)) (F0 m 0 ls []) := by
  obtain ⟨hx, hb, hml, hown, hts, hr, hlocks, hK, hST, hNs⟩ := id X
  unfold m_Home_wantPlace at hm
  refine lv_iload_n hx hb d_Home_wantPlace_0 rfl (lv_at hl 1 rfl) ?_
  obtain ⟨v1, hv, hm⟩ := zbd hm
  refine z_ci hI (z_runS (As := [.int x1]) (rest := []) X hI hl.1 (c_Home_isShelf l G K x1 h _ hv) C_Home_113 rfl (Nat.le_of_ble_eq_true rfl) ⟨Nat.le_of_ble_eq_true rfl, Nat.le_of_ble_eq_true rfl, Nat.zero_le _, Nat.zero_le _⟩ rfl d_Home_wantPlace_1) (fun H locs hI => ?_)
  refine lv_if_ne (tgt := 9) hx hb d_Home_wantPlace_4 (by decide) (fun hc4 => ?_) (fun hc4 => ?_)
  · replace hm := zif_f hc4 hm
    refine lv_aload_n hx hb d_Home_wantPlace_9 rfl (lv_at hl 0 rfl) ?_
    obtain ⟨v10, hv, hm⟩ := zbd hm
    refine z_getR X hI F_Home_53 hv d_Home_wantPlace_10 ?_
    refine lv_iload_n hx hb d_Home_wantPlace_13 rfl (lv_at hl 1 rfl) ?_
    obtain ⟨v14, hv, hm⟩ := zbd hm
    refine z_aald X hI 4 (.object "AllHome$Shelf") rfl rfl hv d_Home_wantPlace_14 ?_
    obtain ⟨v15, hv, hm⟩ := zbd hm
    obtain ⟨hq, hv⟩ := zcv_at hv
    refine z_ci hI (z_runV (As := []) (rest := []) X hI hl.1 (c_Shelf_isEmpty l G K v14 h _ hv) C_Home_116 rfl hq (Nat.le_of_ble_eq_true rfl) ⟨Nat.le_of_ble_eq_true rfl, Nat.le_of_ble_eq_true rfl, Nat.zero_le _, Nat.zero_le _⟩ rfl d_Home_wantPlace_15) (fun H locs hI => ?_)
    refine lv_if_eq (tgt := 24) hx hb d_Home_wantPlace_18 (by decide) (fun hc18 => ?_) (fun hc18 => ?_)
    · replace hm := zif_t hc18 hm
      refine lv_aload_n hx hb d_Home_wantPlace_24 rfl (lv_at hl 0 rfl) ?_
      obtain ⟨v25, hv, hm⟩ := zbd hm
      refine z_getR X hI F_Home_53 hv d_Home_wantPlace_25 ?_
      refine lv_iload_n hx hb d_Home_wantPlace_28 rfl (lv_at hl 1 rfl) ?_
      obtain ⟨v29, hv, hm⟩ := zbd hm
      refine z_aald X hI 4 (.object "AllHome$Shelf") rfl rfl hv d_Home_wantPlace_29 ?_
      obtain ⟨v30, hv, hm⟩ := zbd hm
      obtain ⟨hq, hv⟩ := zcv_at hv
      refine z_ci hI (z_runV (As := []) (rest := []) X hI hl.1 (c_Shelf_isRow l G K v29 h _ hv) C_Home_201 rfl hq (Nat.le_of_ble_eq_true rfl) ⟨Nat.le_of_ble_eq_true rfl, Nat.le_of_ble_eq_true rfl, Nat.zero_le _, Nat.zero_le _⟩ rfl d_Home_wantPlace_30) (fun H locs hI => ?_)
      refine lv_if_ne (tgt := 39) hx hb d_Home_wantPlace_33 (by decide) (fun hc33 => ?_) (fun hc33 => ?_)
      · replace hm := zif_f hc33 hm
        refine lv_aload_n hx hb d_Home_wantPlace_39 rfl (lv_at hl 0 rfl) ?_
        obtain ⟨v40, hv, hm⟩ := zbd hm
        refine z_getR X hI F_Home_53 hv d_Home_wantPlace_40 ?_
        refine lv_iload_n hx hb d_Home_wantPlace_43 rfl (lv_at hl 1 rfl) ?_
        obtain ⟨v44, hv, hm⟩ := zbd hm
        refine z_aald X hI 4 (.object "AllHome$Shelf") rfl rfl hv d_Home_wantPlace_44 ?_
        refine lv_iload_n hx hb d_Home_wantPlace_45 rfl (lv_at hl 2 rfl) ?_
        obtain ⟨v46, hv, hm⟩ := zbd hm
        obtain ⟨hq, hv⟩ := zcv_at hv
        refine z_ci hI (z_runV (As := [.int x2]) (rest := []) X hI hl.1 (c_Shelf_hasPlace l G K v44 x2 h _ hv) C_Home_123 rfl hq (Nat.le_of_ble_eq_true rfl) ⟨Nat.le_of_ble_eq_true rfl, Nat.le_of_ble_eq_true rfl, Nat.zero_le _, Nat.zero_le _⟩ rfl d_Home_wantPlace_46) (fun H locs hI => ?_)
        refine lv_if_eq (tgt := 56) hx hb d_Home_wantPlace_49 (by decide) (fun hc49 => ?_) (fun hc49 => ?_)
        · replace hm := zif_t hc49 hm
          refine lv_bipush (v := (-13 : Int32)) hx hb d_Home_wantPlace_56 (by decide) ?_
          obtain rfl := zs1 hm
          exact z_iret X hI d_Home_wantPlace_58
        · replace hm := zif_f hc49 hm
          refine lv_iconst (v := (nI 1)) hx hb d_Home_wantPlace_52 (by decide) ?_
          refine lv_goto (tgt := 58) hx hb d_Home_wantPlace_53 (by decide) ?_
          obtain rfl := zs1 hm
          exact z_iret X hI d_Home_wantPlace_58
      · replace hm := zif_t hc33 hm
        refine lv_bipush (v := (-12 : Int32)) hx hb d_Home_wantPlace_36 (by decide) ?_
        obtain rfl := zs1 hm
        exact z_iret X hI d_Home_wantPlace_38
    · replace hm := zif_f hc18 hm
      refine lv_bipush (v := (-11 : Int32)) hx hb d_Home_wantPlace_21 (by decide) ?_
      obtain rfl := zs1 hm
      exact z_iret X hI d_Home_wantPlace_23
  · replace hm := zif_t hc4 hm
    refine lv_iconst (v := (-1 : Int32)) hx hb d_Home_wantPlace_7 (by decide) ?_
    obtain rfl := zs1 hm
    exact z_iret X hI d_Home_wantPlace_8
set_option maxHeartbeats 4000000 in
set_option maxRecDepth 100000 in
theorem c_Home_wantPlace (l : Launch) (G : zG) (K : Nat) (a0 : Nat) (x1 : Int32) (x2 : Int32) (h : zH) (r : Int32) (hm : m_Home_wantPlace a0 x1 x2 h = some r) : zMi l G K y_Home_wantPlace prog_1_method_35_code 3 1 [.ref (G.1 a0), .int x1, .int x2] h r h := zMet (by decide +kernel) (Nat.le_of_ble_eq_true rfl) (fun p e s m below meth c ls X hI hl => r_Home_wantPlace_0 X a0 x1 x2 h hm hI hl)
-- walk of AllHome$Shelf.lowestBits
theorem d_Shelf_lowestBits_0 : decode prog_7_method_13_code 0 = .ok (.aload_n 0, 1) := by decide +kernel
theorem d_Shelf_lowestBits_1 : decode prog_7_method_13_code 1 = .ok (.getfield 15, 3) := by decide +kernel
theorem d_Shelf_lowestBits_4 : decode prog_7_method_13_code 4 = .ok (.tableswitch 62 0 4 #[36, 41, 46, 62, 50], 36) := by decide +kernel
theorem d_Shelf_lowestBits_40 : decode prog_7_method_13_code 40 = .ok (.lload_n 1, 1) := by decide +kernel
theorem d_Shelf_lowestBits_41 : decode prog_7_method_13_code 41 = .ok (.l2i, 1) := by decide +kernel
theorem d_Shelf_lowestBits_42 : decode prog_7_method_13_code 42 = .ok (.i2b, 1) := by decide +kernel
theorem d_Shelf_lowestBits_43 : decode prog_7_method_13_code 43 = .ok (.i2l, 1) := by decide +kernel
theorem d_Shelf_lowestBits_44 : decode prog_7_method_13_code 44 = .ok (.lreturn, 1) := by decide +kernel
theorem d_Shelf_lowestBits_45 : decode prog_7_method_13_code 45 = .ok (.lload_n 1, 1) := by decide +kernel
theorem d_Shelf_lowestBits_46 : decode prog_7_method_13_code 46 = .ok (.l2i, 1) := by decide +kernel
theorem d_Shelf_lowestBits_47 : decode prog_7_method_13_code 47 = .ok (.i2s, 1) := by decide +kernel
theorem d_Shelf_lowestBits_48 : decode prog_7_method_13_code 48 = .ok (.i2l, 1) := by decide +kernel
theorem d_Shelf_lowestBits_49 : decode prog_7_method_13_code 49 = .ok (.lreturn, 1) := by decide +kernel
theorem d_Shelf_lowestBits_50 : decode prog_7_method_13_code 50 = .ok (.lload_n 1, 1) := by decide +kernel
theorem d_Shelf_lowestBits_51 : decode prog_7_method_13_code 51 = .ok (.l2i, 1) := by decide +kernel
theorem d_Shelf_lowestBits_52 : decode prog_7_method_13_code 52 = .ok (.i2l, 1) := by decide +kernel
theorem d_Shelf_lowestBits_53 : decode prog_7_method_13_code 53 = .ok (.lreturn, 1) := by decide +kernel
theorem d_Shelf_lowestBits_54 : decode prog_7_method_13_code 54 = .ok (.lload_n 1, 1) := by decide +kernel
theorem d_Shelf_lowestBits_55 : decode prog_7_method_13_code 55 = .ok (.lconst 0, 1) := by decide +kernel
theorem d_Shelf_lowestBits_56 : decode prog_7_method_13_code 56 = .ok (.lcmp, 1) := by decide +kernel
theorem d_Shelf_lowestBits_57 : decode prog_7_method_13_code 57 = .ok (.ifCond .eq 7, 3) := by decide +kernel
theorem d_Shelf_lowestBits_60 : decode prog_7_method_13_code 60 = .ok (.lconst 1, 1) := by decide +kernel
theorem d_Shelf_lowestBits_61 : decode prog_7_method_13_code 61 = .ok (.goto 4, 3) := by decide +kernel
theorem d_Shelf_lowestBits_64 : decode prog_7_method_13_code 64 = .ok (.lconst 0, 1) := by decide +kernel
theorem d_Shelf_lowestBits_65 : decode prog_7_method_13_code 65 = .ok (.lreturn, 1) := by decide +kernel
theorem d_Shelf_lowestBits_66 : decode prog_7_method_13_code 66 = .ok (.lload_n 1, 1) := by decide +kernel
theorem d_Shelf_lowestBits_67 : decode prog_7_method_13_code 67 = .ok (.lreturn, 1) := by decide +kernel
set_option maxHeartbeats 4000000 in
set_option maxRecDepth 100000 in
theorem r_Shelf_lowestBits_0 {p : Program} {l : Launch} {e : Env} {s : State} {m : MethodId} {args : Array Value} {below : List Frame} {meth : Method} {c : Code} {G : zG} {K : Nat} (X : zX p s m args meth c "AllHome$Shelf" prog_7_method_13_code 3 (some .long) G (zA G K)) {r : Int64} (a0 : Nat) (x1 : Int64) (h : zH) (hm : m_Shelf_lowestBits a0 x1 h = some r) {H : Heap} {locs : List Loc} {ls : Array Slot} (hI : zI G K s (zA G K) H locs h) (hl : lv_has ls 3 [(0, .ref (G.1 a0)), (1, .long x1)]) : W p l e (zR 0) s m args below meth c H locs 0 0 (MQ below (zQl G K r h) args s 0 0 (zA G K)) (F0 m 0 ls []) := by
  obtain ⟨hx, hb, hml, hown, hts, hr, hlocks, hK, hST, hNs⟩ := id X
  unfold m_Shelf_lowestBits at hm
  refine lv_aload_n hx hb d_Shelf_lowestBits_0 rfl (lv_at hl 0 rfl) ?_
  obtain ⟨v1, hv, hm⟩ := zbd hm
  refine z_getI X hI F_Shelf_15 hv d_Shelf_lowestBits_1 ?_
  by_cases hs4_0 : v1 = (nI 0)
  · replace hm := zif_t hs4_0 hm
    refine lv_tableIn (off := 36) (tgt := 40) hx hb d_Shelf_lowestBits_4 (by rw [hs4_0]; decide) (by rw [hs4_0]; decide) (by rw [hs4_0]; rfl) (by decide) ?_
    refine lv_lload_n hx hb d_Shelf_lowestBits_40 rfl (lv_at hl 1 rfl) ?_
    refine lv_l2i hx hb d_Shelf_lowestBits_41 rfl ?_
    refine lv_i2b hx hb d_Shelf_lowestBits_42 rfl ?_
    refine lv_i2l hx hb d_Shelf_lowestBits_43 rfl ?_
    obtain rfl := zs1 hm
    exact z_lret X hI d_Shelf_lowestBits_44
  · replace hm := zif_f hs4_0 hm
    by_cases hs4_1 : v1 = (nI 1)
    · replace hm := zif_t hs4_1 hm
      refine lv_tableIn (off := 41) (tgt := 45) hx hb d_Shelf_lowestBits_4 (by rw [hs4_1]; decide) (by rw [hs4_1]; decide) (by rw [hs4_1]; rfl) (by decide) ?_
      refine lv_lload_n hx hb d_Shelf_lowestBits_45 rfl (lv_at hl 1 rfl) ?_
      refine lv_l2i hx hb d_Shelf_lowestBits_46 rfl ?_
      refine lv_i2s hx hb d_Shelf_lowestBits_47 rfl ?_
      refine lv_i2l hx hb d_Shelf_lowestBits_48 rfl ?_
      obtain rfl := zs1 hm
      exact z_lret X hI d_Shelf_lowestBits_49
    · replace hm := zif_f hs4_1 hm
      by_cases hs4_2 : v1 = (nI 2)
      · replace hm := zif_t hs4_2 hm
        refine lv_tableIn (off := 46) (tgt := 50) hx hb d_Shelf_lowestBits_4 (by rw [hs4_2]; decide) (by rw [hs4_2]; decide) (by rw [hs4_2]; rfl) (by decide) ?_
        refine lv_lload_n hx hb d_Shelf_lowestBits_50 rfl (lv_at hl 1 rfl) ?_
        refine lv_l2i hx hb d_Shelf_lowestBits_51 rfl ?_
        refine lv_i2l hx hb d_Shelf_lowestBits_52 rfl ?_
        obtain rfl := zs1 hm
        exact z_lret X hI d_Shelf_lowestBits_53
      · replace hm := zif_f hs4_2 hm
        by_cases hs4_3 : v1 = (nI 3)
        · replace hm := zif_t hs4_3 hm
          refine lv_tableIn (off := 62) (tgt := 66) hx hb d_Shelf_lowestBits_4 (by rw [hs4_3]; decide) (by rw [hs4_3]; decide) (by rw [hs4_3]; rfl) (by decide) ?_
          refine lv_lload_n hx hb d_Shelf_lowestBits_66 rfl (lv_at hl 1 rfl) ?_
          obtain rfl := zs1 hm
          exact z_lret X hI d_Shelf_lowestBits_67
        · replace hm := zif_f hs4_3 hm
          by_cases hs4_4 : v1 = (nI 4)
          · replace hm := zif_t hs4_4 hm
            refine lv_tableIn (off := 50) (tgt := 54) hx hb d_Shelf_lowestBits_4 (by rw [hs4_4]; decide) (by rw [hs4_4]; decide) (by rw [hs4_4]; rfl) (by decide) ?_
            refine lv_lload_n hx hb d_Shelf_lowestBits_54 rfl (lv_at hl 1 rfl) ?_
            refine lv_lconst (v := 0) hx hb d_Shelf_lowestBits_55 (by decide) ?_
            refine W.lcmp hx hb d_Shelf_lowestBits_56 ?_
            refine lv_if_eq (tgt := 64) hx hb d_Shelf_lowestBits_57 (by decide) (fun hc57 => ?_) (fun hc57 => ?_)
            · replace hm := zif_t hc57 hm
              refine lv_lconst (v := 0) hx hb d_Shelf_lowestBits_64 (by decide) ?_
              obtain rfl := zs1 hm
              exact z_lret X hI d_Shelf_lowestBits_65
            · replace hm := zif_f hc57 hm
              refine lv_lconst (v := 1) hx hb d_Shelf_lowestBits_60 (by decide) ?_
              refine lv_goto (tgt := 65) hx hb d_Shelf_lowestBits_61 (by decide) ?_
              obtain rfl := zs1 hm
              exact z_lret X hI d_Shelf_lowestBits_65
          · replace hm := zif_f hs4_4 hm
            have he0 : (v1).toInt ≠ 0 := fun q => hs4_0 (Int32.toInt_inj.mp (q.trans (by decide)))
            have he1 : (v1).toInt ≠ 1 := fun q => hs4_1 (Int32.toInt_inj.mp (q.trans (by decide)))
            have he2 : (v1).toInt ≠ 2 := fun q => hs4_2 (Int32.toInt_inj.mp (q.trans (by decide)))
            have he3 : (v1).toInt ≠ 3 := fun q => hs4_3 (Int32.toInt_inj.mp (q.trans (by decide)))
            have he4 : (v1).toInt ≠ 4 := fun q => hs4_4 (Int32.toInt_inj.mp (q.trans (by decide)))
            refine lv_tableOut (tgt := 66) hx hb d_Shelf_lowestBits_4 (by omega) (by decide) ?_
            refine lv_lload_n hx hb d_Shelf_lowestBits_66 rfl (lv_at hl 1 rfl) ?_
            obtain rfl := zs1 hm
            exact z_lret X hI d_Shelf_lowestBits_67
set_option maxHeartbeats 4000000 in
set_option maxRecDepth 100000 in
theorem c_Shelf_lowestBits (l : Launch) (G : zG) (K : Nat) (a0 : Nat) (x1 : Int64) (h : zH) (r : Int64) (hm : m_Shelf_lowestBits a0 x1 h = some r) : zMl l G K y_Shelf_lowestBits prog_7_method_13_code 3 0 [.ref (G.1 a0), .long x1] h r h := zMet (by decide +kernel) (Nat.le_of_ble_eq_true rfl) (fun p e s m below meth c ls X hI hl => r_Shelf_lowestBits_0 X a0 x1 h hm hI hl)
-- walk of AllHome$Shelf.set
theorem d_Shelf_set_0 : decode prog_7_method_12_code 0 = .ok (.aload_n 0, 1) := by decide +kernel
theorem d_Shelf_set_1 : decode prog_7_method_12_code 1 = .ok (.iload_n 1, 1) := by decide +kernel
theorem d_Shelf_set_2 : decode prog_7_method_12_code 2 = .ok (.invokevirtual 40, 3) := by decide +kernel
theorem d_Shelf_set_5 : decode prog_7_method_12_code 5 = .ok (.ifCond .eq 14, 3) := by decide +kernel
theorem d_Shelf_set_8 : decode prog_7_method_12_code 8 = .ok (.aload_n 0, 1) := by decide +kernel
theorem d_Shelf_set_9 : decode prog_7_method_12_code 9 = .ok (.getfield 11, 3) := by decide +kernel
theorem d_Shelf_set_12 : decode prog_7_method_12_code 12 = .ok (.iload_n 1, 1) := by decide +kernel
theorem d_Shelf_set_13 : decode prog_7_method_12_code 13 = .ok (.aload_n 0, 1) := by decide +kernel
theorem d_Shelf_set_14 : decode prog_7_method_12_code 14 = .ok (.lload_n 2, 1) := by decide +kernel
theorem d_Shelf_set_15 : decode prog_7_method_12_code 15 = .ok (.invokevirtual 48, 3) := by decide +kernel
theorem d_Shelf_set_18 : decode prog_7_method_12_code 18 = .ok (.lastore, 1) := by decide +kernel
theorem d_Shelf_set_19 : decode prog_7_method_12_code 19 = .ok (.return_, 1) := by decide +kernel
set_option maxHeartbeats 4000000 in
set_option maxRecDepth 100000 in
theorem r_Shelf_set_0 {p : Program} {l : Launch} {e : Env} {s : State} {m : MethodId} {args : Array Value} {below : List Frame} {meth : Method} {c : Code} {G : zG} {K : Nat} (X : zX p s m args meth c "AllHome$Shelf" prog_7_method_12_code 4 none G (zA G K)) {h' : zH} (a0 : Nat) (x1 : Int32) (x2 : Int64) (h : zH) (hm : m_Shelf_set a0 x1 x2 h = some h') {H : Heap} {locs : List Loc} {ls : Array Slot} (hI : zI G K s (zA G K) H locs h) (hl : lv_has ls 4 [(0, .ref (G.1 a0)), (1, .int x1), (2, .long x2)]) : W p l e (zR 1) s m args below meth c H locs 0 0 (MQ below (zQv G K h') args s 0 0 (zA G K)) (F0 m 0 ls []) := by
  obtain ⟨hx, hb, hml, hown, hts, hr, hlocks, hK, hST, hNs⟩ := id X
  unfold m_Shelf_set at hm
  refine lv_aload_n hx hb d_Shelf_set_0 rfl (lv_at hl 0 rfl) ?_
  refine lv_iload_n hx hb d_Shelf_set_1 rfl (lv_at hl 1 rfl) ?_
  obtain ⟨v2, hv, hm⟩ := zbd hm
  obtain ⟨hq, hv⟩ := zcv_at hv
  refine z_ci hI (z_runV (As := [.int x1]) (rest := []) X hI hl.1 (c_Shelf_hasPlace l G K a0 x1 h _ hv) C_Shelf_40 rfl hq (Nat.le_of_ble_eq_true rfl) ⟨Nat.le_of_ble_eq_true rfl, Nat.le_of_ble_eq_true rfl, Nat.zero_le _, Nat.zero_le _⟩ rfl d_Shelf_set_2) (fun H locs hI => ?_)
  refine lv_if_eq (tgt := 19) hx hb d_Shelf_set_5 (by decide) (fun hc5 => ?_) (fun hc5 => ?_)
  · replace hm := zif_t hc5 hm
    obtain rfl := zs1 hm
    exact z_vret X hI d_Shelf_set_19
  · replace hm := zif_f hc5 hm
    refine lv_aload_n hx hb d_Shelf_set_8 rfl (lv_at hl 0 rfl) ?_
    obtain ⟨v9, hv, hm⟩ := zbd hm
    refine z_getR X hI F_Shelf_11 hv d_Shelf_set_9 ?_
    refine lv_iload_n hx hb d_Shelf_set_12 rfl (lv_at hl 1 rfl) ?_
    refine lv_aload_n hx hb d_Shelf_set_13 rfl (lv_at hl 0 rfl) ?_
    refine lv_lload_n hx hb d_Shelf_set_14 rfl (lv_at hl 2 rfl) ?_
    obtain ⟨v15, hv, hm⟩ := zbd hm
    obtain ⟨hq, hv⟩ := zcv_at hv
    refine z_cl hI (z_runV (As := [.long x2]) (rest := [.int x1, .ref (G.1 v9)]) X hI hl.1 (c_Shelf_lowestBits l G K a0 x2 h _ hv) C_Shelf_48 rfl hq (Nat.le_of_ble_eq_true rfl) ⟨Nat.le_of_ble_eq_true rfl, Nat.le_of_ble_eq_true rfl, Nat.zero_le _, Nat.zero_le _⟩ rfl d_Shelf_set_15) (fun H locs hI => ?_)
    obtain ⟨h18, hv, hm⟩ := zbd hm
    refine z_last X hI hv d_Shelf_set_18 (fun H locs hI => ?_)
    obtain rfl := zs1 hm
    exact z_vret X hI d_Shelf_set_19
set_option maxHeartbeats 4000000 in
set_option maxRecDepth 100000 in
theorem c_Shelf_set (l : Launch) (G : zG) (K : Nat) (a0 : Nat) (x1 : Int32) (x2 : Int64) (h : zH) (h' : zH) (hm : m_Shelf_set a0 x1 x2 h = some h') : zMv l G K y_Shelf_set prog_7_method_12_code 4 1 [.ref (G.1 a0), .int x1, .long x2] h h' := zMet (by decide +kernel) (Nat.le_of_ble_eq_true rfl) (fun p e s m below meth c ls X hI hl => r_Shelf_set_0 X a0 x1 x2 h hm hI hl)
-- walk of AllHome.put
theorem d_Home_put_0 : decode prog_1_method_24_code 0 = .ok (.aload_n 0, 1) := by decide +kernel
theorem d_Home_put_1 : decode prog_1_method_24_code 1 = .ok (.iload_n 1, 1) := by decide +kernel
theorem d_Home_put_2 : decode prog_1_method_24_code 2 = .ok (.iload_n 2, 1) := by decide +kernel
theorem d_Home_put_3 : decode prog_1_method_24_code 3 = .ok (.invokevirtual 190, 3) := by decide +kernel
theorem d_Home_put_6 : decode prog_1_method_24_code 6 = .ok (.istore 5, 2) := by decide +kernel
theorem d_Home_put_8 : decode prog_1_method_24_code 8 = .ok (.iload 5, 2) := by decide +kernel
theorem d_Home_put_10 : decode prog_1_method_24_code 10 = .ok (.ifCond .ge 6, 3) := by decide +kernel
theorem d_Home_put_13 : decode prog_1_method_24_code 13 = .ok (.iload 5, 2) := by decide +kernel
theorem d_Home_put_15 : decode prog_1_method_24_code 15 = .ok (.ireturn, 1) := by decide +kernel
theorem d_Home_put_16 : decode prog_1_method_24_code 16 = .ok (.aload_n 0, 1) := by decide +kernel
theorem d_Home_put_17 : decode prog_1_method_24_code 17 = .ok (.getfield 53, 3) := by decide +kernel
theorem d_Home_put_20 : decode prog_1_method_24_code 20 = .ok (.iload_n 1, 1) := by decide +kernel
theorem d_Home_put_21 : decode prog_1_method_24_code 21 = .ok (.aaload, 1) := by decide +kernel
theorem d_Home_put_22 : decode prog_1_method_24_code 22 = .ok (.iload_n 2, 1) := by decide +kernel
theorem d_Home_put_23 : decode prog_1_method_24_code 23 = .ok (.lload_n 3, 1) := by decide +kernel
theorem d_Home_put_24 : decode prog_1_method_24_code 24 = .ok (.invokevirtual 193, 3) := by decide +kernel
theorem d_Home_put_27 : decode prog_1_method_24_code 27 = .ok (.iconst 1, 1) := by decide +kernel
theorem d_Home_put_28 : decode prog_1_method_24_code 28 = .ok (.ireturn, 1) := by decide +kernel
set_option maxHeartbeats 4000000 in
set_option maxRecDepth 100000 in
theorem r_Home_put_0 {p : Program} {l : Launch} {e : Env} {s : State} {m : MethodId} {args : Array Value} {below : List Frame} {meth : Method} {c : Code} {G : zG} {K : Nat} (X : zX p s m args meth c "AllHome" prog_1_method_24_code 6 (some .int) G (zA G K)) {r : Int32} {h' : zH} (a0 : Nat) (x1 : Int32) (x2 : Int32) (x3 : Int64) (h : zH) (hm : m_Home_put a0 x1 x2 x3 h = some (r, h')) {H : Heap} {locs : List Loc} {ls : Array Slot} (hI : zI G K s (zA G K) H locs h) (hl : lv_has ls 6 [(0, .ref (G.1 a0)), (1, .int x1), (2, .int x2), (3, .long x3)]) : W p l e (zR 2) s m args below meth c H locs 0 0 (MQ below (zQi G K r h') args s 0 0 (zA G K)) (F0 m 0 ls []) := by
  obtain ⟨hx, hb, hml, hown, hts, hr, hlocks, hK, hST, hNs⟩ := id X
  unfold m_Home_put at hm
  refine lv_aload_n hx hb d_Home_put_0 rfl (lv_at hl 0 rfl) ?_
  refine lv_iload_n hx hb d_Home_put_1 rfl (lv_at hl 1 rfl) ?_
  refine lv_iload_n hx hb d_Home_put_2 rfl (lv_at hl 2 rfl) ?_
  obtain ⟨v3, hv, hm⟩ := zbd hm
  obtain ⟨hq, hv⟩ := zcv_at hv
  refine z_ci hI (z_runV (As := [.int x1, .int x2]) (rest := []) X hI hl.1 (c_Home_wantPlace l G K a0 x1 x2 h _ hv) C_Home_190 rfl hq (Nat.le_of_ble_eq_true rfl) ⟨Nat.le_of_ble_eq_true rfl, Nat.le_of_ble_eq_true rfl, Nat.zero_le _, Nat.zero_le _⟩ rfl d_Home_put_3) (fun H locs hI => ?_)
  refine lv_istore (lv' := [(5, .int v3), (0, .ref (G.1 a0)), (1, .int x1), (2, .int x2), (3, .long x3)]) hx hb d_Home_put_6 hl (by decide) rfl (fun ls hl => ?_)
  refine lv_iload hx hb d_Home_put_8 (lv_at hl 0 rfl) ?_
  refine lv_if_ge (tgt := 16) hx hb d_Home_put_10 (by decide) (fun hc10 => ?_) (fun hc10 => ?_)
  · replace hm := zif_t hc10 hm
    refine lv_aload_n hx hb d_Home_put_16 rfl (lv_at hl 1 rfl) ?_
    obtain ⟨v17, hv, hm⟩ := zbd hm
    refine z_getR X hI F_Home_53 hv d_Home_put_17 ?_
    refine lv_iload_n hx hb d_Home_put_20 rfl (lv_at hl 2 rfl) ?_
    obtain ⟨v21, hv, hm⟩ := zbd hm
    refine z_aald X hI 4 (.object "AllHome$Shelf") rfl rfl hv d_Home_put_21 ?_
    refine lv_iload_n hx hb d_Home_put_22 rfl (lv_at hl 3 rfl) ?_
    refine lv_lload_n hx hb d_Home_put_23 rfl (lv_at hl 4 rfl) ?_
    obtain ⟨h24, hv, hm⟩ := zbd hm
    obtain ⟨hq, hv⟩ := zcv_at hv
    refine z_cv hI (z_runV (As := [.int x2, .long x3]) (rest := []) X hI hl.1 (c_Shelf_set l G K v21 x2 x3 h _ hv) C_Home_193 rfl hq (Nat.le_of_ble_eq_true rfl) ⟨Nat.le_of_ble_eq_true rfl, Nat.le_of_ble_eq_true rfl, Nat.zero_le _, Nat.zero_le _⟩ rfl d_Home_put_24) (fun H locs hI => ?_)
    refine lv_iconst (v := (nI 1)) hx hb d_Home_put_27 (by decide) ?_
    obtain ⟨rfl, rfl⟩ := zs2 hm
    exact z_iret X hI d_Home_put_28
  · replace hm := zif_f hc10 hm
    refine lv_iload hx hb d_Home_put_13 (lv_at hl 0 rfl) ?_
    obtain ⟨rfl, rfl⟩ := zs2 hm
    exact z_iret X hI d_Home_put_15
set_option maxHeartbeats 4000000 in
set_option maxRecDepth 100000 in
theorem c_Home_put (l : Launch) (G : zG) (K : Nat) (a0 : Nat) (x1 : Int32) (x2 : Int32) (x3 : Int64) (h : zH) (r : Int32) (h' : zH) (hm : m_Home_put a0 x1 x2 x3 h = some (r, h')) : zMi l G K y_Home_put prog_1_method_24_code 6 2 [.ref (G.1 a0), .int x1, .int x2, .long x3] h r h' := zMet (by decide +kernel) (Nat.le_of_ble_eq_true rfl) (fun p e s m below meth c ls X hI hl => r_Home_put_0 X a0 x1 x2 x3 h hm hI hl)
-- walk of AllHome.element
theorem d_Home_element_0 : decode prog_1_method_25_code 0 = .ok (.aload_n 0, 1) := by decide +kernel
theorem d_Home_element_1 : decode prog_1_method_25_code 1 = .ok (.iload_n 1, 1) := by decide +kernel
theorem d_Home_element_2 : decode prog_1_method_25_code 2 = .ok (.iload_n 2, 1) := by decide +kernel
theorem d_Home_element_3 : decode prog_1_method_25_code 3 = .ok (.invokevirtual 190, 3) := by decide +kernel
theorem d_Home_element_6 : decode prog_1_method_25_code 6 = .ok (.ifCond .ge 9, 3) := by decide +kernel
theorem d_Home_element_9 : decode prog_1_method_25_code 9 = .ok (.ldc2_w 199, 3) := by decide +kernel
theorem d_Home_element_12 : decode prog_1_method_25_code 12 = .ok (.goto 13, 3) := by decide +kernel
theorem d_Home_element_15 : decode prog_1_method_25_code 15 = .ok (.aload_n 0, 1) := by decide +kernel
theorem d_Home_element_16 : decode prog_1_method_25_code 16 = .ok (.getfield 53, 3) := by decide +kernel
theorem d_Home_element_19 : decode prog_1_method_25_code 19 = .ok (.iload_n 1, 1) := by decide +kernel
theorem d_Home_element_20 : decode prog_1_method_25_code 20 = .ok (.aaload, 1) := by decide +kernel
theorem d_Home_element_21 : decode prog_1_method_25_code 21 = .ok (.iload_n 2, 1) := by decide +kernel
theorem d_Home_element_22 : decode prog_1_method_25_code 22 = .ok (.invokevirtual 126, 3) := by decide +kernel
theorem d_Home_element_25 : decode prog_1_method_25_code 25 = .ok (.lreturn, 1) := by decide +kernel
set_option maxHeartbeats 4000000 in
set_option maxRecDepth 100000 in
theorem r_Home_element_0 {p : Program} {l : Launch} {e : Env} {s : State} {m : MethodId} {args : Array Value} {below : List Frame} {meth : Method} {c : Code} {G : zG} {K : Nat} (X : zX p s m args meth c "AllHome" prog_1_method_25_code 3 (some .long) G (zA G K)) {r : Int64} (a0 : Nat) (x1 : Int32) (x2 : Int32) (h : zH) (hm : m_Home_element a0 x1 x2 h = some r) {H : Heap} {locs : List Loc} {ls : Array Slot} (hI : zI G K s (zA G K) H locs h) (hl : lv_has ls 3 [(0, .ref (G.1 a0)), (1, .int x1), (2, .int x2)]) : W p l e (zR 2) s m args below meth c H locs 0 0 (MQ below (zQl G K r h) args s 0 0 (zA G K)) (F0 m 0 ls []) := by
  obtain ⟨hx, hb, hml, hown, hts, hr, hlocks, hK, hST, hNs⟩ := id X
  unfold m_Home_element at hm
  refine lv_aload_n hx hb d_Home_element_0 rfl (lv_at hl 0 rfl) ?_
  refine lv_iload_n hx hb d_Home_element_1 rfl (lv_at hl 1 rfl) ?_
  refine lv_iload_n hx hb d_Home_element_2 rfl (lv_at hl 2 rfl) ?_
  obtain ⟨v3, hv, hm⟩ := zbd hm
  obtain ⟨hq, hv⟩ := zcv_at hv
  refine z_ci hI (z_runV (As := [.int x1, .int x2]) (rest := []) X hI hl.1 (c_Home_wantPlace l G K a0 x1 x2 h _ hv) C_Home_190 rfl hq (Nat.le_of_ble_eq_true rfl) ⟨Nat.le_of_ble_eq_true rfl, Nat.le_of_ble_eq_true rfl, Nat.zero_le _, Nat.zero_le _⟩ rfl d_Home_element_3) (fun H locs hI => ?_)
  refine lv_if_ge (tgt := 15) hx hb d_Home_element_6 (by decide) (fun hc6 => ?_) (fun hc6 => ?_)
  · replace hm := zif_t hc6 hm
    refine lv_aload_n hx hb d_Home_element_15 rfl (lv_at hl 0 rfl) ?_
    obtain ⟨v16, hv, hm⟩ := zbd hm
    refine z_getR X hI F_Home_53 hv d_Home_element_16 ?_
    refine lv_iload_n hx hb d_Home_element_19 rfl (lv_at hl 1 rfl) ?_
    obtain ⟨v20, hv, hm⟩ := zbd hm
    refine z_aald X hI 4 (.object "AllHome$Shelf") rfl rfl hv d_Home_element_20 ?_
    refine lv_iload_n hx hb d_Home_element_21 rfl (lv_at hl 2 rfl) ?_
    obtain ⟨v22, hv, hm⟩ := zbd hm
    obtain ⟨hq, hv⟩ := zcv_at hv
    refine z_cl hI (z_runV (As := [.int x2]) (rest := []) X hI hl.1 (c_Shelf_at l G K v20 x2 h _ hv) C_Home_126 rfl hq (Nat.le_of_ble_eq_true rfl) ⟨Nat.le_of_ble_eq_true rfl, Nat.le_of_ble_eq_true rfl, Nat.zero_le _, Nat.zero_le _⟩ rfl d_Home_element_22) (fun H locs hI => ?_)
    obtain rfl := zs1 hm
    exact z_lret X hI d_Home_element_25
  · replace hm := zif_f hc6 hm
    refine lv_ldc2 hx hb hown (hts _ kw631) d_Home_element_9 ?_
    refine lv_goto (tgt := 25) hx hb d_Home_element_12 (by decide) ?_
    obtain rfl := zs1 hm
    exact z_lret X hI d_Home_element_25
set_option maxHeartbeats 4000000 in
set_option maxRecDepth 100000 in
theorem c_Home_element (l : Launch) (G : zG) (K : Nat) (a0 : Nat) (x1 : Int32) (x2 : Int32) (h : zH) (r : Int64) (hm : m_Home_element a0 x1 x2 h = some r) : zMl l G K y_Home_element prog_1_method_25_code 3 2 [.ref (G.1 a0), .int x1, .int x2] h r h := zMet (by decide +kernel) (Nat.le_of_ble_eq_true rfl) (fun p e s m below meth c ls X hI hl => r_Home_element_0 X a0 x1 x2 h hm hI hl)
-- walk of AllHome$Shelf.sort
theorem d_Shelf_sort_0 : decode prog_7_method_7_code 0 = .ok (.aload_n 0, 1) := by decide +kernel
theorem d_Shelf_sort_1 : decode prog_7_method_7_code 1 = .ok (.getfield 15, 3) := by decide +kernel
theorem d_Shelf_sort_4 : decode prog_7_method_7_code 4 = .ok (.ireturn, 1) := by decide +kernel
set_option maxHeartbeats 4000000 in
set_option maxRecDepth 100000 in
theorem r_Shelf_sort_0 {p : Program} {l : Launch} {e : Env} {s : State} {m : MethodId} {args : Array Value} {below : List Frame} {meth : Method} {c : Code} {G : zG} {K : Nat} (X : zX p s m args meth c "AllHome$Shelf" prog_7_method_7_code 1 (some .int) G (zA G K)) {r : Int32} (a0 : Nat) (h : zH) (hm : m_Shelf_sort a0 h = some r) {H : Heap} {locs : List Loc} {ls : Array Slot} (hI : zI G K s (zA G K) H locs h) (hl : lv_has ls 1 [(0, .ref (G.1 a0))]) : W p l e (zR 0) s m args below meth c H locs 0 0 (MQ below (zQi G K r h) args s 0 0 (zA G K)) (F0 m 0 ls []) := by
  obtain ⟨hx, hb, hml, hown, hts, hr, hlocks, hK, hST, hNs⟩ := id X
  unfold m_Shelf_sort at hm
  refine lv_aload_n hx hb d_Shelf_sort_0 rfl (lv_at hl 0 rfl) ?_
  obtain ⟨v1, hv, hm⟩ := zbd hm
  refine z_getI X hI F_Shelf_15 hv d_Shelf_sort_1 ?_
  obtain rfl := zs1 hm
  exact z_iret X hI d_Shelf_sort_4
set_option maxHeartbeats 4000000 in
set_option maxRecDepth 100000 in
theorem c_Shelf_sort (l : Launch) (G : zG) (K : Nat) (a0 : Nat) (h : zH) (r : Int32) (hm : m_Shelf_sort a0 h = some r) : zMi l G K y_Shelf_sort prog_7_method_7_code 1 0 [.ref (G.1 a0)] h r h := zMet (by decide +kernel) (Nat.le_of_ble_eq_true rfl) (fun p e s m below meth c ls X hI hl => r_Shelf_sort_0 X a0 h hm hI hl)
-- walk of AllHome$Shelf.hasPlaces
theorem d_Shelf_hasPlaces_0 : decode prog_7_method_10_code 0 = .ok (.iload_n 2, 1) := by decide +kernel
theorem d_Shelf_hasPlaces_1 : decode prog_7_method_10_code 1 = .ok (.ifCond .lt 21, 3) := by decide +kernel
theorem d_Shelf_hasPlaces_4 : decode prog_7_method_10_code 4 = .ok (.iload_n 1, 1) := by decide +kernel
theorem d_Shelf_hasPlaces_5 : decode prog_7_method_10_code 5 = .ok (.ifCond .lt 17, 3) := by decide +kernel
theorem d_Shelf_hasPlaces_8 : decode prog_7_method_10_code 8 = .ok (.iload_n 1, 1) := by decide +kernel
theorem d_Shelf_hasPlaces_9 : decode prog_7_method_10_code 9 = .ok (.aload_n 0, 1) := by decide +kernel
theorem d_Shelf_hasPlaces_10 : decode prog_7_method_10_code 10 = .ok (.getfield 22, 3) := by decide +kernel
theorem d_Shelf_hasPlaces_13 : decode prog_7_method_10_code 13 = .ok (.iload_n 2, 1) := by decide +kernel
theorem d_Shelf_hasPlaces_14 : decode prog_7_method_10_code 14 = .ok (.isub, 1) := by decide +kernel
theorem d_Shelf_hasPlaces_15 : decode prog_7_method_10_code 15 = .ok (.if_icmp .gt 7, 3) := by decide +kernel
theorem d_Shelf_hasPlaces_18 : decode prog_7_method_10_code 18 = .ok (.iconst 1, 1) := by decide +kernel
theorem d_Shelf_hasPlaces_19 : decode prog_7_method_10_code 19 = .ok (.goto 4, 3) := by decide +kernel
theorem d_Shelf_hasPlaces_22 : decode prog_7_method_10_code 22 = .ok (.iconst 0, 1) := by decide +kernel
theorem d_Shelf_hasPlaces_23 : decode prog_7_method_10_code 23 = .ok (.ireturn, 1) := by decide +kernel
set_option maxHeartbeats 4000000 in
set_option maxRecDepth 100000 in
theorem r_Shelf_hasPlaces_0 {p : Program} {l : Launch} {e : Env} {s : State} {m : MethodId} {args : Array Value} {below : List Frame} {meth : Method} {c : Code} {G : zG} {K : Nat} (X : zX p s m args meth c "AllHome$Shelf" prog_7_method_10_code 3 (some .boolean) G (zA G K)) {r : Int32} (a0 : Nat) (x1 : Int32) (x2 : Int32) (h : zH) (hm : m_Shelf_hasPlaces a0 x1 x2 h = some r) {H : Heap} {locs : List Loc} {ls : Array Slot} (hI : zI G K s (zA G K) H locs h) (hl : lv_has ls 3 [(0, .ref (G.1 a0)), (1, .int x1), (2, .int x2)]) : W p l e (zR 0) s m args below meth c H locs 0 0 (MQ below (zQi G K r h) args s 0 0 (zA G K)) (F0 m 0 ls []) := by
  obtain ⟨hx, hb, hml, hown, hts, hr, hlocks, hK, hST, hNs⟩ := id X
  unfold m_Shelf_hasPlaces at hm
  refine lv_iload_n hx hb d_Shelf_hasPlaces_0 rfl (lv_at hl 2 rfl) ?_
  refine lv_if_lt (tgt := 22) hx hb d_Shelf_hasPlaces_1 (by decide) (fun hc1 => ?_) (fun hc1 => ?_)
  · replace hm := zif_t hc1 hm
    refine lv_iconst (v := (nI 0)) hx hb d_Shelf_hasPlaces_22 (by decide) ?_
    obtain rfl := zs1 hm
    exact z_zret X hI (by decide) d_Shelf_hasPlaces_23
  · replace hm := zif_f hc1 hm
    refine lv_iload_n hx hb d_Shelf_hasPlaces_4 rfl (lv_at hl 1 rfl) ?_
    refine lv_if_lt (tgt := 22) hx hb d_Shelf_hasPlaces_5 (by decide) (fun hc5 => ?_) (fun hc5 => ?_)
    · replace hm := zif_t hc5 hm
      refine lv_iconst (v := (nI 0)) hx hb d_Shelf_hasPlaces_22 (by decide) ?_
      obtain rfl := zs1 hm
      exact z_zret X hI (by decide) d_Shelf_hasPlaces_23
    · replace hm := zif_f hc5 hm
      refine lv_iload_n hx hb d_Shelf_hasPlaces_8 rfl (lv_at hl 1 rfl) ?_
      refine lv_aload_n hx hb d_Shelf_hasPlaces_9 rfl (lv_at hl 0 rfl) ?_
      obtain ⟨v10, hv, hm⟩ := zbd hm
      refine z_getI X hI F_Shelf_22 hv d_Shelf_hasPlaces_10 ?_
      refine lv_iload_n hx hb d_Shelf_hasPlaces_13 rfl (lv_at hl 2 rfl) ?_
      refine lv_isub hx hb d_Shelf_hasPlaces_14 ?_
      refine lv_icmp_gt (tgt := 22) hx hb d_Shelf_hasPlaces_15 (by decide) (fun hc15 => ?_) (fun hc15 => ?_)
      · replace hm := zif_t hc15 hm
        refine lv_iconst (v := (nI 0)) hx hb d_Shelf_hasPlaces_22 (by decide) ?_
        obtain rfl := zs1 hm
        exact z_zret X hI (by decide) d_Shelf_hasPlaces_23
      · replace hm := zif_f hc15 hm
        refine lv_iconst (v := (nI 1)) hx hb d_Shelf_hasPlaces_18 (by decide) ?_
        refine lv_goto (tgt := 23) hx hb d_Shelf_hasPlaces_19 (by decide) ?_
        obtain rfl := zs1 hm
        exact z_zret X hI (by decide) d_Shelf_hasPlaces_23
set_option maxHeartbeats 4000000 in
set_option maxRecDepth 100000 in
theorem c_Shelf_hasPlaces (l : Launch) (G : zG) (K : Nat) (a0 : Nat) (x1 : Int32) (x2 : Int32) (h : zH) (r : Int32) (hm : m_Shelf_hasPlaces a0 x1 x2 h = some r) : zMz l G K y_Shelf_hasPlaces prog_7_method_10_code 3 0 [.ref (G.1 a0), .int x1, .int x2] h r h := zMet (by decide +kernel) (Nat.le_of_ble_eq_true rfl) (fun p e s m below meth c ls X hI hl => r_Shelf_hasPlaces_0 X a0 x1 x2 h hm hI hl)
-- walk of AllHome$Shelf.copyTo
theorem d_Shelf_copyTo_0 : decode prog_7_method_14_code 0 = .ok (.aload_n 0, 1) := by decide +kernel
theorem d_Shelf_copyTo_1 : decode prog_7_method_14_code 1 = .ok (.iload_n 1, 1) := by decide +kernel
theorem d_Shelf_copyTo_2 : decode prog_7_method_14_code 2 = .ok (.iload 4, 2) := by decide +kernel
theorem d_Shelf_copyTo_4 : decode prog_7_method_14_code 4 = .ok (.invokevirtual 52, 3) := by decide +kernel
theorem d_Shelf_copyTo_7 : decode prog_7_method_14_code 7 = .ok (.ifCond .eq 28, 3) := by decide +kernel
theorem d_Shelf_copyTo_10 : decode prog_7_method_14_code 10 = .ok (.aload_n 2, 1) := by decide +kernel
theorem d_Shelf_copyTo_11 : decode prog_7_method_14_code 11 = .ok (.iload_n 3, 1) := by decide +kernel
theorem d_Shelf_copyTo_12 : decode prog_7_method_14_code 12 = .ok (.iload 4, 2) := by decide +kernel
theorem d_Shelf_copyTo_14 : decode prog_7_method_14_code 14 = .ok (.invokevirtual 52, 3) := by decide +kernel
theorem d_Shelf_copyTo_17 : decode prog_7_method_14_code 17 = .ok (.ifCond .eq 18, 3) := by decide +kernel
theorem d_Shelf_copyTo_20 : decode prog_7_method_14_code 20 = .ok (.aload_n 0, 1) := by decide +kernel
theorem d_Shelf_copyTo_21 : decode prog_7_method_14_code 21 = .ok (.getfield 11, 3) := by decide +kernel
theorem d_Shelf_copyTo_24 : decode prog_7_method_14_code 24 = .ok (.iload_n 1, 1) := by decide +kernel
theorem d_Shelf_copyTo_25 : decode prog_7_method_14_code 25 = .ok (.aload_n 2, 1) := by decide +kernel
theorem d_Shelf_copyTo_26 : decode prog_7_method_14_code 26 = .ok (.getfield 11, 3) := by decide +kernel
theorem d_Shelf_copyTo_29 : decode prog_7_method_14_code 29 = .ok (.iload_n 3, 1) := by decide +kernel
theorem d_Shelf_copyTo_30 : decode prog_7_method_14_code 30 = .ok (.iload 4, 2) := by decide +kernel
theorem d_Shelf_copyTo_32 : decode prog_7_method_14_code 32 = .ok (.invokestatic 56, 3) := by decide +kernel
theorem d_Shelf_copyTo_35 : decode prog_7_method_14_code 35 = .ok (.return_, 1) := by decide +kernel
set_option maxHeartbeats 4000000 in
set_option maxRecDepth 100000 in
theorem r_Shelf_copyTo_0 {p : Program} {l : Launch} {e : Env} {s : State} {m : MethodId} {args : Array Value} {below : List Frame} {meth : Method} {c : Code} {G : zG} {K : Nat} (X : zX p s m args meth c "AllHome$Shelf" prog_7_method_14_code 5 none G (zA G K)) {h' : zH} (a0 : Nat) (x1 : Int32) (a2 : Nat) (x3 : Int32) (x4 : Int32) (h : zH) (hm : m_Shelf_copyTo a0 x1 a2 x3 x4 h = some h') {H : Heap} {locs : List Loc} {ls : Array Slot} (hI : zI G K s (zA G K) H locs h) (hl : lv_has ls 5 [(0, .ref (G.1 a0)), (1, .int x1), (2, .ref (G.1 a2)), (3, .int x3), (4, .int x4)]) : W p l e (zR 1) s m args below meth c H locs 0 0 (MQ below (zQv G K h') args s 0 0 (zA G K)) (F0 m 0 ls []) := by
  obtain ⟨hx, hb, hml, hown, hts, hr, hlocks, hK, hST, hNs⟩ := id X
  unfold m_Shelf_copyTo at hm
  refine lv_aload_n hx hb d_Shelf_copyTo_0 rfl (lv_at hl 0 rfl) ?_
  refine lv_iload_n hx hb d_Shelf_copyTo_1 rfl (lv_at hl 1 rfl) ?_
  refine lv_iload hx hb d_Shelf_copyTo_2 (lv_at hl 4 rfl) ?_
  obtain ⟨v4, hv, hm⟩ := zbd hm
  obtain ⟨hq, hv⟩ := zcv_at hv
  refine z_ci hI (z_runV (As := [.int x1, .int x4]) (rest := []) X hI hl.1 (c_Shelf_hasPlaces l G K a0 x1 x4 h _ hv) C_Shelf_52 rfl hq (Nat.le_of_ble_eq_true rfl) ⟨Nat.le_of_ble_eq_true rfl, Nat.le_of_ble_eq_true rfl, Nat.zero_le _, Nat.zero_le _⟩ rfl d_Shelf_copyTo_4) (fun H locs hI => ?_)
  refine lv_if_eq (tgt := 35) hx hb d_Shelf_copyTo_7 (by decide) (fun hc7 => ?_) (fun hc7 => ?_)
  · replace hm := zif_t hc7 hm
    obtain rfl := zs1 hm
    exact z_vret X hI d_Shelf_copyTo_35
  · replace hm := zif_f hc7 hm
    refine lv_aload_n hx hb d_Shelf_copyTo_10 rfl (lv_at hl 2 rfl) ?_
    refine lv_iload_n hx hb d_Shelf_copyTo_11 rfl (lv_at hl 3 rfl) ?_
    refine lv_iload hx hb d_Shelf_copyTo_12 (lv_at hl 4 rfl) ?_
    obtain ⟨v14, hv, hm⟩ := zbd hm
    obtain ⟨hq, hv⟩ := zcv_at hv
    refine z_ci hI (z_runV (As := [.int x3, .int x4]) (rest := []) X hI hl.1 (c_Shelf_hasPlaces l G K a2 x3 x4 h _ hv) C_Shelf_52 rfl hq (Nat.le_of_ble_eq_true rfl) ⟨Nat.le_of_ble_eq_true rfl, Nat.le_of_ble_eq_true rfl, Nat.zero_le _, Nat.zero_le _⟩ rfl d_Shelf_copyTo_14) (fun H locs hI => ?_)
    refine lv_if_eq (tgt := 35) hx hb d_Shelf_copyTo_17 (by decide) (fun hc17 => ?_) (fun hc17 => ?_)
    · replace hm := zif_t hc17 hm
      obtain rfl := zs1 hm
      exact z_vret X hI d_Shelf_copyTo_35
    · replace hm := zif_f hc17 hm
      refine lv_aload_n hx hb d_Shelf_copyTo_20 rfl (lv_at hl 0 rfl) ?_
      obtain ⟨v21, hv, hm⟩ := zbd hm
      refine z_getR X hI F_Shelf_11 hv d_Shelf_copyTo_21 ?_
      refine lv_iload_n hx hb d_Shelf_copyTo_24 rfl (lv_at hl 1 rfl) ?_
      refine lv_aload_n hx hb d_Shelf_copyTo_25 rfl (lv_at hl 2 rfl) ?_
      obtain ⟨v26, hv, hm⟩ := zbd hm
      refine z_getR X hI F_Shelf_11 hv d_Shelf_copyTo_26 ?_
      refine lv_iload_n hx hb d_Shelf_copyTo_29 rfl (lv_at hl 3 rfl) ?_
      refine lv_iload hx hb d_Shelf_copyTo_30 (lv_at hl 4 rfl) ?_
      obtain ⟨h32, hv, hm⟩ := zbd hm
      refine z_cpJ X hI hl.1 kw649 kw313 kw312 kw11 hv ⟨Nat.le_of_ble_eq_true rfl, Nat.le_of_ble_eq_true rfl⟩ d_Shelf_copyTo_32 (fun H locs hI => ?_)
      obtain rfl := zs1 hm
      exact z_vret X hI d_Shelf_copyTo_35
set_option maxHeartbeats 4000000 in
set_option maxRecDepth 100000 in
theorem c_Shelf_copyTo (l : Launch) (G : zG) (K : Nat) (a0 : Nat) (x1 : Int32) (a2 : Nat) (x3 : Int32) (x4 : Int32) (h : zH) (h' : zH) (hm : m_Shelf_copyTo a0 x1 a2 x3 x4 h = some h') : zMv l G K y_Shelf_copyTo prog_7_method_14_code 5 1 [.ref (G.1 a0), .int x1, .ref (G.1 a2), .int x3, .int x4] h h' := zMet (by decide +kernel) (Nat.le_of_ble_eq_true rfl) (fun p e s m below meth c ls X hI hl => r_Shelf_copyTo_0 X a0 x1 a2 x3 x4 h hm hI hl)
-- walk of AllHome.shift
theorem d_Home_shift_0 : decode prog_1_method_26_code 0 = .ok (.iload_n 1, 1) := by decide +kernel
theorem d_Home_shift_1 : decode prog_1_method_26_code 1 = .ok (.invokestatic 113, 3) := by decide +kernel
theorem d_Home_shift_4 : decode prog_1_method_26_code 4 = .ok (.ifCond .eq 10, 3) := by decide +kernel
theorem d_Home_shift_7 : decode prog_1_method_26_code 7 = .ok (.iload_n 3, 1) := by decide +kernel
theorem d_Home_shift_8 : decode prog_1_method_26_code 8 = .ok (.invokestatic 113, 3) := by decide +kernel
theorem d_Home_shift_11 : decode prog_1_method_26_code 11 = .ok (.ifCond .ne 5, 3) := by decide +kernel
theorem d_Home_shift_14 : decode prog_1_method_26_code 14 = .ok (.iconst (-1), 1) := by decide +kernel
theorem d_Home_shift_15 : decode prog_1_method_26_code 15 = .ok (.ireturn, 1) := by decide +kernel
theorem d_Home_shift_16 : decode prog_1_method_26_code 16 = .ok (.aload_n 0, 1) := by decide +kernel
theorem d_Home_shift_17 : decode prog_1_method_26_code 17 = .ok (.getfield 53, 3) := by decide +kernel
theorem d_Home_shift_20 : decode prog_1_method_26_code 20 = .ok (.iload_n 1, 1) := by decide +kernel
theorem d_Home_shift_21 : decode prog_1_method_26_code 21 = .ok (.aaload, 1) := by decide +kernel
theorem d_Home_shift_22 : decode prog_1_method_26_code 22 = .ok (.astore 6, 2) := by decide +kernel
theorem d_Home_shift_24 : decode prog_1_method_26_code 24 = .ok (.aload_n 0, 1) := by decide +kernel
theorem d_Home_shift_25 : decode prog_1_method_26_code 25 = .ok (.getfield 53, 3) := by decide +kernel
theorem d_Home_shift_28 : decode prog_1_method_26_code 28 = .ok (.iload_n 3, 1) := by decide +kernel
theorem d_Home_shift_29 : decode prog_1_method_26_code 29 = .ok (.aaload, 1) := by decide +kernel
theorem d_Home_shift_30 : decode prog_1_method_26_code 30 = .ok (.astore 7, 2) := by decide +kernel
theorem d_Home_shift_32 : decode prog_1_method_26_code 32 = .ok (.aload 6, 2) := by decide +kernel
theorem d_Home_shift_34 : decode prog_1_method_26_code 34 = .ok (.invokevirtual 116, 3) := by decide +kernel
theorem d_Home_shift_37 : decode prog_1_method_26_code 37 = .ok (.ifCond .ne 11, 3) := by decide +kernel
theorem d_Home_shift_40 : decode prog_1_method_26_code 40 = .ok (.aload 7, 2) := by decide +kernel
theorem d_Home_shift_42 : decode prog_1_method_26_code 42 = .ok (.invokevirtual 116, 3) := by decide +kernel
theorem d_Home_shift_45 : decode prog_1_method_26_code 45 = .ok (.ifCond .eq 6, 3) := by decide +kernel
theorem d_Home_shift_48 : decode prog_1_method_26_code 48 = .ok (.bipush (-11), 2) := by decide +kernel
theorem d_Home_shift_50 : decode prog_1_method_26_code 50 = .ok (.ireturn, 1) := by decide +kernel
theorem d_Home_shift_51 : decode prog_1_method_26_code 51 = .ok (.aload 6, 2) := by decide +kernel
theorem d_Home_shift_53 : decode prog_1_method_26_code 53 = .ok (.invokevirtual 201, 3) := by decide +kernel
theorem d_Home_shift_56 : decode prog_1_method_26_code 56 = .ok (.ifCond .eq 16, 3) := by decide +kernel
theorem d_Home_shift_59 : decode prog_1_method_26_code 59 = .ok (.aload 7, 2) := by decide +kernel
theorem d_Home_shift_61 : decode prog_1_method_26_code 61 = .ok (.aload 6, 2) := by decide +kernel
theorem d_Home_shift_63 : decode prog_1_method_26_code 63 = .ok (.invokevirtual 204, 3) := by decide +kernel
theorem d_Home_shift_66 : decode prog_1_method_26_code 66 = .ok (.invokevirtual 120, 3) := by decide +kernel
theorem d_Home_shift_69 : decode prog_1_method_26_code 69 = .ok (.ifCond .ne 6, 3) := by decide +kernel
theorem d_Home_shift_72 : decode prog_1_method_26_code 72 = .ok (.bipush (-12), 2) := by decide +kernel
theorem d_Home_shift_74 : decode prog_1_method_26_code 74 = .ok (.ireturn, 1) := by decide +kernel
theorem d_Home_shift_75 : decode prog_1_method_26_code 75 = .ok (.aload 6, 2) := by decide +kernel
theorem d_Home_shift_77 : decode prog_1_method_26_code 77 = .ok (.iload_n 2, 1) := by decide +kernel
theorem d_Home_shift_78 : decode prog_1_method_26_code 78 = .ok (.iload 5, 2) := by decide +kernel
theorem d_Home_shift_80 : decode prog_1_method_26_code 80 = .ok (.invokevirtual 207, 3) := by decide +kernel
theorem d_Home_shift_83 : decode prog_1_method_26_code 83 = .ok (.ifCond .eq 15, 3) := by decide +kernel
theorem d_Home_shift_86 : decode prog_1_method_26_code 86 = .ok (.aload 7, 2) := by decide +kernel
theorem d_Home_shift_88 : decode prog_1_method_26_code 88 = .ok (.iload 4, 2) := by decide +kernel
theorem d_Home_shift_90 : decode prog_1_method_26_code 90 = .ok (.iload 5, 2) := by decide +kernel
theorem d_Home_shift_92 : decode prog_1_method_26_code 92 = .ok (.invokevirtual 207, 3) := by decide +kernel
theorem d_Home_shift_95 : decode prog_1_method_26_code 95 = .ok (.ifCond .ne 6, 3) := by decide +kernel
theorem d_Home_shift_98 : decode prog_1_method_26_code 98 = .ok (.bipush (-13), 2) := by decide +kernel
theorem d_Home_shift_100 : decode prog_1_method_26_code 100 = .ok (.ireturn, 1) := by decide +kernel
theorem d_Home_shift_101 : decode prog_1_method_26_code 101 = .ok (.aload 6, 2) := by decide +kernel
theorem d_Home_shift_103 : decode prog_1_method_26_code 103 = .ok (.iload_n 2, 1) := by decide +kernel
theorem d_Home_shift_104 : decode prog_1_method_26_code 104 = .ok (.aload 7, 2) := by decide +kernel
theorem d_Home_shift_106 : decode prog_1_method_26_code 106 = .ok (.iload 4, 2) := by decide +kernel
theorem d_Home_shift_108 : decode prog_1_method_26_code 108 = .ok (.iload 5, 2) := by decide +kernel
theorem d_Home_shift_110 : decode prog_1_method_26_code 110 = .ok (.invokevirtual 211, 3) := by decide +kernel
theorem d_Home_shift_113 : decode prog_1_method_26_code 113 = .ok (.iload 5, 2) := by decide +kernel
theorem d_Home_shift_115 : decode prog_1_method_26_code 115 = .ok (.ireturn, 1) := by decide +kernel
set_option maxHeartbeats 4000000 in
set_option maxRecDepth 100000 in
theorem r_Home_shift_0 {p : Program} {l : Launch} {e : Env} {s : State} {m : MethodId} {args : Array Value} {below : List Frame} {meth : Method} {c : Code} {G : zG} {K : Nat} (X : zX p s m args meth c "AllHome" prog_1_method_26_code 8 (some .int) G (zA G K)) {r : Int32} {h' : zH} (a0 : Nat) (x1 : Int32) (x2 : Int32) (x3 : Int32) (x4 : Int32) (x5 : Int32) (h : zH) (hm : m_Home_shift a0 x1 x2 x3 x4 x5 h = some (r, h')) {H : Heap} {locs : List Loc} {ls : Array Slot} (hI : zI G K s (zA G K) H locs h) (hl : lv_has ls 8 [(0, .ref (G.1 a0)), (1, .int x1), (2, .int x2), (3, .int x3), (4, .int x4), (5, .int x5)]) : W p l e (zR 2) s m args below meth c H locs 0 0 (MQ below (zQi G K r h') args s 0 0 (zA G K)) (F0 m 0 ls []) := by
  obtain ⟨hx, hb, hml, hown, hts, hr, hlocks, hK, hST, hNs⟩ := id X
  unfold m_Home_shift at hm
  refine lv_iload_n hx hb d_Home_shift_0 rfl (lv_at hl 1 rfl) ?_
  obtain ⟨v1, hv, hm⟩ := zbd hm
  refine z_ci hI (z_runS (As := [.int x1]) (rest := []) X hI hl.1 (c_Home_isShelf l G K x1 h _ hv) C_Home_113 rfl (Nat.le_of_ble_eq_true rfl) ⟨Nat.le_of_ble_eq_true rfl, Nat.le_of_ble_eq_true rfl, Nat.zero_le _, Nat.zero_le _⟩ rfl d_Home_shift_1) (fun H locs hI => ?_)
  refine lv_if_eq (tgt := 14) hx hb d_Home_shift_4 (by decide) (fun hc4 => ?_) (fun hc4 => ?_)
  · replace hm := zif_t hc4 hm
    refine lv_iconst (v := (-1 : Int32)) hx hb d_Home_shift_14 (by decide) ?_
    obtain ⟨rfl, rfl⟩ := zs2 hm
    exact z_iret X hI d_Home_shift_15
  · replace hm := zif_f hc4 hm
    refine lv_iload_n hx hb d_Home_shift_7 rfl (lv_at hl 3 rfl) ?_
    obtain ⟨v8, hv, hm⟩ := zbd hm
    refine z_ci hI (z_runS (As := [.int x3]) (rest := []) X hI hl.1 (c_Home_isShelf l G K x3 h _ hv) C_Home_113 rfl (Nat.le_of_ble_eq_true rfl) ⟨Nat.le_of_ble_eq_true rfl, Nat.le_of_ble_eq_true rfl, Nat.zero_le _, Nat.zero_le _⟩ rfl d_Home_shift_8) (fun H locs hI => ?_)
    refine lv_if_ne (tgt := 16) hx hb d_Home_shift_11 (by decide) (fun hc11 => ?_) (fun hc11 => ?_)
    · replace hm := zif_f hc11 hm
      refine lv_aload_n hx hb d_Home_shift_16 rfl (lv_at hl 0 rfl) ?_
      obtain ⟨v17, hv, hm⟩ := zbd hm
      refine z_getR X hI F_Home_53 hv d_Home_shift_17 ?_
      refine lv_iload_n hx hb d_Home_shift_20 rfl (lv_at hl 1 rfl) ?_
      obtain ⟨v21, hv, hm⟩ := zbd hm
      refine z_aald X hI 4 (.object "AllHome$Shelf") rfl rfl hv d_Home_shift_21 ?_
      refine lv_astore (lv' := [(6, .ref (G.1 v21)), (0, .ref (G.1 a0)), (1, .int x1), (2, .int x2), (3, .int x3), (4, .int x4), (5, .int x5)]) hx hb d_Home_shift_22 hl (by decide) rfl (fun ls hl => ?_)
      refine lv_aload_n hx hb d_Home_shift_24 rfl (lv_at hl 1 rfl) ?_
      obtain ⟨v25, hv, hm⟩ := zbd hm
      refine z_getR X hI F_Home_53 hv d_Home_shift_25 ?_
      refine lv_iload_n hx hb d_Home_shift_28 rfl (lv_at hl 4 rfl) ?_
      obtain ⟨v29, hv, hm⟩ := zbd hm
      refine z_aald X hI 4 (.object "AllHome$Shelf") rfl rfl hv d_Home_shift_29 ?_
      refine lv_astore (lv' := [(7, .ref (G.1 v29)), (6, .ref (G.1 v21)), (0, .ref (G.1 a0)), (1, .int x1), (2, .int x2), (3, .int x3), (4, .int x4), (5, .int x5)]) hx hb d_Home_shift_30 hl (by decide) rfl (fun ls hl => ?_)
      refine lv_aload hx hb d_Home_shift_32 (lv_at hl 1 rfl) ?_
      obtain ⟨v34, hv, hm⟩ := zbd hm
      obtain ⟨hq, hv⟩ := zcv_at hv
      refine z_ci hI (z_runV (As := []) (rest := []) X hI hl.1 (c_Shelf_isEmpty l G K v21 h _ hv) C_Home_116 rfl hq (Nat.le_of_ble_eq_true rfl) ⟨Nat.le_of_ble_eq_true rfl, Nat.le_of_ble_eq_true rfl, Nat.zero_le _, Nat.zero_le _⟩ rfl d_Home_shift_34) (fun H locs hI => ?_)
      refine lv_if_ne (tgt := 48) hx hb d_Home_shift_37 (by decide) (fun hc37 => ?_) (fun hc37 => ?_)
      · replace hm := zif_f hc37 hm
        refine lv_bipush (v := (-11 : Int32)) hx hb d_Home_shift_48 (by decide) ?_
        obtain ⟨rfl, rfl⟩ := zs2 hm
        exact z_iret X hI d_Home_shift_50
      · replace hm := zif_t hc37 hm
        refine lv_aload hx hb d_Home_shift_40 (lv_at hl 0 rfl) ?_
        obtain ⟨v42, hv, hm⟩ := zbd hm
        obtain ⟨hq, hv⟩ := zcv_at hv
        refine z_ci hI (z_runV (As := []) (rest := []) X hI hl.1 (c_Shelf_isEmpty l G K v29 h _ hv) C_Home_116 rfl hq (Nat.le_of_ble_eq_true rfl) ⟨Nat.le_of_ble_eq_true rfl, Nat.le_of_ble_eq_true rfl, Nat.zero_le _, Nat.zero_le _⟩ rfl d_Home_shift_42) (fun H locs hI => ?_)
        refine lv_if_eq (tgt := 51) hx hb d_Home_shift_45 (by decide) (fun hc45 => ?_) (fun hc45 => ?_)
        · replace hm := zif_t hc45 hm
          refine lv_aload hx hb d_Home_shift_51 (lv_at hl 1 rfl) ?_
          obtain ⟨v53, hv, hm⟩ := zbd hm
          obtain ⟨hq, hv⟩ := zcv_at hv
          refine z_ci hI (z_runV (As := []) (rest := []) X hI hl.1 (c_Shelf_isRow l G K v21 h _ hv) C_Home_201 rfl hq (Nat.le_of_ble_eq_true rfl) ⟨Nat.le_of_ble_eq_true rfl, Nat.le_of_ble_eq_true rfl, Nat.zero_le _, Nat.zero_le _⟩ rfl d_Home_shift_53) (fun H locs hI => ?_)
          refine lv_if_eq (tgt := 72) hx hb d_Home_shift_56 (by decide) (fun hc56 => ?_) (fun hc56 => ?_)
          · replace hm := zif_t hc56 hm
            refine lv_bipush (v := (-12 : Int32)) hx hb d_Home_shift_72 (by decide) ?_
            obtain ⟨rfl, rfl⟩ := zs2 hm
            exact z_iret X hI d_Home_shift_74
          · replace hm := zif_f hc56 hm
            refine lv_aload hx hb d_Home_shift_59 (lv_at hl 0 rfl) ?_
            refine lv_aload hx hb d_Home_shift_61 (lv_at hl 1 rfl) ?_
            obtain ⟨v63, hv, hm⟩ := zbd hm
            obtain ⟨hq, hv⟩ := zcv_at hv
            refine z_ci hI (z_runV (As := []) (rest := [.ref (G.1 v29)]) X hI hl.1 (c_Shelf_sort l G K v21 h _ hv) C_Home_204 rfl hq (Nat.le_of_ble_eq_true rfl) ⟨Nat.le_of_ble_eq_true rfl, Nat.le_of_ble_eq_true rfl, Nat.zero_le _, Nat.zero_le _⟩ rfl d_Home_shift_63) (fun H locs hI => ?_)
            obtain ⟨v66, hv, hm⟩ := zbd hm
            obtain ⟨hq, hv⟩ := zcv_at hv
            refine z_ci hI (z_runV (As := [.int v63]) (rest := []) X hI hl.1 (c_Shelf_isRowOf l G K v29 v63 h _ hv) C_Home_120 rfl hq (Nat.le_of_ble_eq_true rfl) ⟨Nat.le_of_ble_eq_true rfl, Nat.le_of_ble_eq_true rfl, Nat.zero_le _, Nat.zero_le _⟩ rfl d_Home_shift_66) (fun H locs hI => ?_)
            refine lv_if_ne (tgt := 75) hx hb d_Home_shift_69 (by decide) (fun hc69 => ?_) (fun hc69 => ?_)
            · replace hm := zif_f hc69 hm
              refine lv_aload hx hb d_Home_shift_75 (lv_at hl 1 rfl) ?_
              refine lv_iload_n hx hb d_Home_shift_77 rfl (lv_at hl 4 rfl) ?_
              refine lv_iload hx hb d_Home_shift_78 (lv_at hl 7 rfl) ?_
              obtain ⟨v80, hv, hm⟩ := zbd hm
              obtain ⟨hq, hv⟩ := zcv_at hv
              refine z_ci hI (z_runV (As := [.int x2, .int x5]) (rest := []) X hI hl.1 (c_Shelf_hasPlaces l G K v21 x2 x5 h _ hv) C_Home_207 rfl hq (Nat.le_of_ble_eq_true rfl) ⟨Nat.le_of_ble_eq_true rfl, Nat.le_of_ble_eq_true rfl, Nat.zero_le _, Nat.zero_le _⟩ rfl d_Home_shift_80) (fun H locs hI => ?_)
              refine lv_if_eq (tgt := 98) hx hb d_Home_shift_83 (by decide) (fun hc83 => ?_) (fun hc83 => ?_)
              · replace hm := zif_t hc83 hm
                refine lv_bipush (v := (-13 : Int32)) hx hb d_Home_shift_98 (by decide) ?_
                obtain ⟨rfl, rfl⟩ := zs2 hm
                exact z_iret X hI d_Home_shift_100
              · replace hm := zif_f hc83 hm
                refine lv_aload hx hb d_Home_shift_86 (lv_at hl 0 rfl) ?_
                refine lv_iload hx hb d_Home_shift_88 (lv_at hl 6 rfl) ?_
                refine lv_iload hx hb d_Home_shift_90 (lv_at hl 7 rfl) ?_
                obtain ⟨v92, hv, hm⟩ := zbd hm
                obtain ⟨hq, hv⟩ := zcv_at hv
                refine z_ci hI (z_runV (As := [.int x4, .int x5]) (rest := []) X hI hl.1 (c_Shelf_hasPlaces l G K v29 x4 x5 h _ hv) C_Home_207 rfl hq (Nat.le_of_ble_eq_true rfl) ⟨Nat.le_of_ble_eq_true rfl, Nat.le_of_ble_eq_true rfl, Nat.zero_le _, Nat.zero_le _⟩ rfl d_Home_shift_92) (fun H locs hI => ?_)
                refine lv_if_ne (tgt := 101) hx hb d_Home_shift_95 (by decide) (fun hc95 => ?_) (fun hc95 => ?_)
                · replace hm := zif_f hc95 hm
                  refine lv_aload hx hb d_Home_shift_101 (lv_at hl 1 rfl) ?_
                  refine lv_iload_n hx hb d_Home_shift_103 rfl (lv_at hl 4 rfl) ?_
                  refine lv_aload hx hb d_Home_shift_104 (lv_at hl 0 rfl) ?_
                  refine lv_iload hx hb d_Home_shift_106 (lv_at hl 6 rfl) ?_
                  refine lv_iload hx hb d_Home_shift_108 (lv_at hl 7 rfl) ?_
                  obtain ⟨h110, hv, hm⟩ := zbd hm
                  obtain ⟨hq, hv⟩ := zcv_at hv
                  refine z_cv hI (z_runV (As := [.int x2, .ref (G.1 v29), .int x4, .int x5]) (rest := []) X hI hl.1 (c_Shelf_copyTo l G K v21 x2 v29 x4 x5 h _ hv) C_Home_211 rfl hq (Nat.le_of_ble_eq_true rfl) ⟨Nat.le_of_ble_eq_true rfl, Nat.le_of_ble_eq_true rfl, Nat.zero_le _, Nat.zero_le _⟩ rfl d_Home_shift_110) (fun H locs hI => ?_)
                  refine lv_iload hx hb d_Home_shift_113 (lv_at hl 7 rfl) ?_
                  obtain ⟨rfl, rfl⟩ := zs2 hm
                  exact z_iret X hI d_Home_shift_115
                · replace hm := zif_t hc95 hm
                  refine lv_bipush (v := (-13 : Int32)) hx hb d_Home_shift_98 (by decide) ?_
                  obtain ⟨rfl, rfl⟩ := zs2 hm
                  exact z_iret X hI d_Home_shift_100
            · replace hm := zif_t hc69 hm
              refine lv_bipush (v := (-12 : Int32)) hx hb d_Home_shift_72 (by decide) ?_
              obtain ⟨rfl, rfl⟩ := zs2 hm
              exact z_iret X hI d_Home_shift_74
        · replace hm := zif_f hc45 hm
          refine lv_bipush (v := (-11 : Int32)) hx hb d_Home_shift_48 (by decide) ?_
          obtain ⟨rfl, rfl⟩ := zs2 hm
          exact z_iret X hI d_Home_shift_50
    · replace hm := zif_t hc11 hm
      refine lv_iconst (v := (-1 : Int32)) hx hb d_Home_shift_14 (by decide) ?_
      obtain ⟨rfl, rfl⟩ := zs2 hm
      exact z_iret X hI d_Home_shift_15
set_option maxHeartbeats 4000000 in
set_option maxRecDepth 100000 in
theorem c_Home_shift (l : Launch) (G : zG) (K : Nat) (a0 : Nat) (x1 : Int32) (x2 : Int32) (x3 : Int32) (x4 : Int32) (x5 : Int32) (h : zH) (r : Int32) (h' : zH) (hm : m_Home_shift a0 x1 x2 x3 x4 x5 h = some (r, h')) : zMi l G K y_Home_shift prog_1_method_26_code 8 2 [.ref (G.1 a0), .int x1, .int x2, .int x3, .int x4, .int x5] h r h' := zMet (by decide +kernel) (Nat.le_of_ble_eq_true rfl) (fun p e s m below meth c ls X hI hl => r_Home_shift_0 X a0 x1 x2 x3 x4 x5 h hm hI hl)
-- walk of AllHome$Shelf.heldWay
theorem d_Shelf_heldWay_0 : decode prog_7_method_8_code 0 = .ok (.aload_n 0, 1) := by decide +kernel
theorem d_Shelf_heldWay_1 : decode prog_7_method_8_code 1 = .ok (.getfield 19, 3) := by decide +kernel
theorem d_Shelf_heldWay_4 : decode prog_7_method_8_code 4 = .ok (.ireturn, 1) := by decide +kernel
set_option maxHeartbeats 4000000 in
set_option maxRecDepth 100000 in
theorem r_Shelf_heldWay_0 {p : Program} {l : Launch} {e : Env} {s : State} {m : MethodId} {args : Array Value} {below : List Frame} {meth : Method} {c : Code} {G : zG} {K : Nat} (X : zX p s m args meth c "AllHome$Shelf" prog_7_method_8_code 1 (some .int) G (zA G K)) {r : Int32} (a0 : Nat) (h : zH) (hm : m_Shelf_heldWay a0 h = some r) {H : Heap} {locs : List Loc} {ls : Array Slot} (hI : zI G K s (zA G K) H locs h) (hl : lv_has ls 1 [(0, .ref (G.1 a0))]) : W p l e (zR 0) s m args below meth c H locs 0 0 (MQ below (zQi G K r h) args s 0 0 (zA G K)) (F0 m 0 ls []) := by
  obtain ⟨hx, hb, hml, hown, hts, hr, hlocks, hK, hST, hNs⟩ := id X
  unfold m_Shelf_heldWay at hm
  refine lv_aload_n hx hb d_Shelf_heldWay_0 rfl (lv_at hl 0 rfl) ?_
  obtain ⟨v1, hv, hm⟩ := zbd hm
  refine z_getI X hI F_Shelf_19 hv d_Shelf_heldWay_1 ?_
  obtain rfl := zs1 hm
  exact z_iret X hI d_Shelf_heldWay_4
set_option maxHeartbeats 4000000 in
set_option maxRecDepth 100000 in
theorem c_Shelf_heldWay (l : Launch) (G : zG) (K : Nat) (a0 : Nat) (h : zH) (r : Int32) (hm : m_Shelf_heldWay a0 h = some r) : zMi l G K y_Shelf_heldWay prog_7_method_8_code 1 0 [.ref (G.1 a0)] h r h := zMet (by decide +kernel) (Nat.le_of_ble_eq_true rfl) (fun p e s m below meth c ls X hI hl => r_Shelf_heldWay_0 X a0 h hm hI hl)
-- walk of AllHome.taken
theorem d_Home_taken_0 : decode prog_1_method_27_code 0 = .ok (.iload_n 1, 1) := by decide +kernel
theorem d_Home_taken_1 : decode prog_1_method_27_code 1 = .ok (.invokestatic 113, 3) := by decide +kernel
theorem d_Home_taken_4 : decode prog_1_method_27_code 4 = .ok (.ifCond .eq 10, 3) := by decide +kernel
theorem d_Home_taken_7 : decode prog_1_method_27_code 7 = .ok (.iload_n 2, 1) := by decide +kernel
theorem d_Home_taken_8 : decode prog_1_method_27_code 8 = .ok (.invokestatic 93, 3) := by decide +kernel
theorem d_Home_taken_11 : decode prog_1_method_27_code 11 = .ok (.ifCond .ne 5, 3) := by decide +kernel
theorem d_Home_taken_14 : decode prog_1_method_27_code 14 = .ok (.iconst (-1), 1) := by decide +kernel
theorem d_Home_taken_15 : decode prog_1_method_27_code 15 = .ok (.ireturn, 1) := by decide +kernel
theorem d_Home_taken_16 : decode prog_1_method_27_code 16 = .ok (.aload_n 0, 1) := by decide +kernel
theorem d_Home_taken_17 : decode prog_1_method_27_code 17 = .ok (.getfield 53, 3) := by decide +kernel
theorem d_Home_taken_20 : decode prog_1_method_27_code 20 = .ok (.iload_n 1, 1) := by decide +kernel
theorem d_Home_taken_21 : decode prog_1_method_27_code 21 = .ok (.aaload, 1) := by decide +kernel
theorem d_Home_taken_22 : decode prog_1_method_27_code 22 = .ok (.invokevirtual 116, 3) := by decide +kernel
theorem d_Home_taken_25 : decode prog_1_method_27_code 25 = .ok (.ifCond .eq 6, 3) := by decide +kernel
theorem d_Home_taken_28 : decode prog_1_method_27_code 28 = .ok (.bipush (-11), 2) := by decide +kernel
theorem d_Home_taken_30 : decode prog_1_method_27_code 30 = .ok (.ireturn, 1) := by decide +kernel
theorem d_Home_taken_31 : decode prog_1_method_27_code 31 = .ok (.aload_n 0, 1) := by decide +kernel
theorem d_Home_taken_32 : decode prog_1_method_27_code 32 = .ok (.getfield 53, 3) := by decide +kernel
theorem d_Home_taken_35 : decode prog_1_method_27_code 35 = .ok (.iload_n 1, 1) := by decide +kernel
theorem d_Home_taken_36 : decode prog_1_method_27_code 36 = .ok (.aaload, 1) := by decide +kernel
theorem d_Home_taken_37 : decode prog_1_method_27_code 37 = .ok (.invokevirtual 215, 3) := by decide +kernel
theorem d_Home_taken_40 : decode prog_1_method_27_code 40 = .ok (.istore_n 3, 1) := by decide +kernel
theorem d_Home_taken_41 : decode prog_1_method_27_code 41 = .ok (.aload_n 0, 1) := by decide +kernel
theorem d_Home_taken_42 : decode prog_1_method_27_code 42 = .ok (.iload_n 3, 1) := by decide +kernel
theorem d_Home_taken_43 : decode prog_1_method_27_code 43 = .ok (.invokevirtual 99, 3) := by decide +kernel
theorem d_Home_taken_46 : decode prog_1_method_27_code 46 = .ok (.ifCond .eq 16, 3) := by decide +kernel
theorem d_Home_taken_49 : decode prog_1_method_27_code 49 = .ok (.aload_n 0, 1) := by decide +kernel
theorem d_Home_taken_50 : decode prog_1_method_27_code 50 = .ok (.getfield 20, 3) := by decide +kernel
theorem d_Home_taken_53 : decode prog_1_method_27_code 53 = .ok (.iload_n 3, 1) := by decide +kernel
theorem d_Home_taken_54 : decode prog_1_method_27_code 54 = .ok (.iaload, 1) := by decide +kernel
theorem d_Home_taken_55 : decode prog_1_method_27_code 55 = .ok (.iload_n 2, 1) := by decide +kernel
theorem d_Home_taken_56 : decode prog_1_method_27_code 56 = .ok (.invokestatic 218, 3) := by decide +kernel
theorem d_Home_taken_59 : decode prog_1_method_27_code 59 = .ok (.ifCond .ne 6, 3) := by decide +kernel
theorem d_Home_taken_62 : decode prog_1_method_27_code 62 = .ok (.bipush (-12), 2) := by decide +kernel
theorem d_Home_taken_64 : decode prog_1_method_27_code 64 = .ok (.ireturn, 1) := by decide +kernel
theorem d_Home_taken_65 : decode prog_1_method_27_code 65 = .ok (.aload_n 0, 1) := by decide +kernel
theorem d_Home_taken_66 : decode prog_1_method_27_code 66 = .ok (.getfield 20, 3) := by decide +kernel
theorem d_Home_taken_69 : decode prog_1_method_27_code 69 = .ok (.iload_n 3, 1) := by decide +kernel
theorem d_Home_taken_70 : decode prog_1_method_27_code 70 = .ok (.iaload, 1) := by decide +kernel
theorem d_Home_taken_71 : decode prog_1_method_27_code 71 = .ok (.ireturn, 1) := by decide +kernel
set_option maxHeartbeats 4000000 in
set_option maxRecDepth 100000 in
theorem r_Home_taken_0 {p : Program} {l : Launch} {e : Env} {s : State} {m : MethodId} {args : Array Value} {below : List Frame} {meth : Method} {c : Code} {G : zG} {K : Nat} (X : zX p s m args meth c "AllHome" prog_1_method_27_code 4 (some .int) G (zA G K)) {r : Int32} (a0 : Nat) (x1 : Int32) (x2 : Int32) (h : zH) (hm : m_Home_taken a0 x1 x2 h = some r) {H : Heap} {locs : List Loc} {ls : Array Slot} (hI : zI G K s (zA G K) H locs h) (hl : lv_has ls 4 [(0, .ref (G.1 a0)), (1, .int x1), (2, .int x2)]) : W p l e (zR 2) s m args below meth c H locs 0 0 (MQ below (zQi G K r h) args s 0 0 (zA G K)) (F0 m 0 ls []) := by
  obtain ⟨hx, hb, hml, hown, hts, hr, hlocks, hK, hST, hNs⟩ := id X
  unfold m_Home_taken at hm
  refine lv_iload_n hx hb d_Home_taken_0 rfl (lv_at hl 1 rfl) ?_
  obtain ⟨v1, hv, hm⟩ := zbd hm
  refine z_ci hI (z_runS (As := [.int x1]) (rest := []) X hI hl.1 (c_Home_isShelf l G K x1 h _ hv) C_Home_113 rfl (Nat.le_of_ble_eq_true rfl) ⟨Nat.le_of_ble_eq_true rfl, Nat.le_of_ble_eq_true rfl, Nat.zero_le _, Nat.zero_le _⟩ rfl d_Home_taken_1) (fun H locs hI => ?_)
  refine lv_if_eq (tgt := 14) hx hb d_Home_taken_4 (by decide) (fun hc4 => ?_) (fun hc4 => ?_)
  · replace hm := zif_t hc4 hm
    refine lv_iconst (v := (-1 : Int32)) hx hb d_Home_taken_14 (by decide) ?_
    obtain rfl := zs1 hm
    exact z_iret X hI d_Home_taken_15
  · replace hm := zif_f hc4 hm
    refine lv_iload_n hx hb d_Home_taken_7 rfl (lv_at hl 2 rfl) ?_
    obtain ⟨v8, hv, hm⟩ := zbd hm
    refine z_ci hI (z_runS (As := [.int x2]) (rest := []) X hI hl.1 (c_Home_isKind l G K x2 h _ hv) C_Home_93 rfl (Nat.le_of_ble_eq_true rfl) ⟨Nat.le_of_ble_eq_true rfl, Nat.le_of_ble_eq_true rfl, Nat.zero_le _, Nat.zero_le _⟩ rfl d_Home_taken_8) (fun H locs hI => ?_)
    refine lv_if_ne (tgt := 16) hx hb d_Home_taken_11 (by decide) (fun hc11 => ?_) (fun hc11 => ?_)
    · replace hm := zif_f hc11 hm
      refine lv_aload_n hx hb d_Home_taken_16 rfl (lv_at hl 0 rfl) ?_
      obtain ⟨v17, hv, hm⟩ := zbd hm
      refine z_getR X hI F_Home_53 hv d_Home_taken_17 ?_
      refine lv_iload_n hx hb d_Home_taken_20 rfl (lv_at hl 1 rfl) ?_
      obtain ⟨v21, hv, hm⟩ := zbd hm
      refine z_aald X hI 4 (.object "AllHome$Shelf") rfl rfl hv d_Home_taken_21 ?_
      obtain ⟨v22, hv, hm⟩ := zbd hm
      obtain ⟨hq, hv⟩ := zcv_at hv
      refine z_ci hI (z_runV (As := []) (rest := []) X hI hl.1 (c_Shelf_isEmpty l G K v21 h _ hv) C_Home_116 rfl hq (Nat.le_of_ble_eq_true rfl) ⟨Nat.le_of_ble_eq_true rfl, Nat.le_of_ble_eq_true rfl, Nat.zero_le _, Nat.zero_le _⟩ rfl d_Home_taken_22) (fun H locs hI => ?_)
      refine lv_if_eq (tgt := 31) hx hb d_Home_taken_25 (by decide) (fun hc25 => ?_) (fun hc25 => ?_)
      · replace hm := zif_t hc25 hm
        refine lv_aload_n hx hb d_Home_taken_31 rfl (lv_at hl 0 rfl) ?_
        obtain ⟨v32, hv, hm⟩ := zbd hm
        refine z_getR X hI F_Home_53 hv d_Home_taken_32 ?_
        refine lv_iload_n hx hb d_Home_taken_35 rfl (lv_at hl 1 rfl) ?_
        obtain ⟨v36, hv, hm⟩ := zbd hm
        refine z_aald X hI 4 (.object "AllHome$Shelf") rfl rfl hv d_Home_taken_36 ?_
        obtain ⟨v37, hv, hm⟩ := zbd hm
        obtain ⟨hq, hv⟩ := zcv_at hv
        refine z_ci hI (z_runV (As := []) (rest := []) X hI hl.1 (c_Shelf_heldWay l G K v36 h _ hv) C_Home_215 rfl hq (Nat.le_of_ble_eq_true rfl) ⟨Nat.le_of_ble_eq_true rfl, Nat.le_of_ble_eq_true rfl, Nat.zero_le _, Nat.zero_le _⟩ rfl d_Home_taken_37) (fun H locs hI => ?_)
        refine lv_istore_n (lv' := [(3, .int v37), (0, .ref (G.1 a0)), (1, .int x1), (2, .int x2)]) hx hb d_Home_taken_40 rfl hl (by decide) rfl (fun ls hl => ?_)
        refine lv_aload_n hx hb d_Home_taken_41 rfl (lv_at hl 1 rfl) ?_
        refine lv_iload_n hx hb d_Home_taken_42 rfl (lv_at hl 0 rfl) ?_
        obtain ⟨v43, hv, hm⟩ := zbd hm
        obtain ⟨hq, hv⟩ := zcv_at hv
        refine z_ci hI (z_runV (As := [.int v37]) (rest := []) X hI hl.1 (c_Home_isWay l G K a0 v37 h _ hv) C_Home_99 rfl hq (Nat.le_of_ble_eq_true rfl) ⟨Nat.le_of_ble_eq_true rfl, Nat.le_of_ble_eq_true rfl, Nat.zero_le _, Nat.zero_le _⟩ rfl d_Home_taken_43) (fun H locs hI => ?_)
        refine lv_if_eq (tgt := 62) hx hb d_Home_taken_46 (by decide) (fun hc46 => ?_) (fun hc46 => ?_)
        · replace hm := zif_t hc46 hm
          refine lv_bipush (v := (-12 : Int32)) hx hb d_Home_taken_62 (by decide) ?_
          obtain rfl := zs1 hm
          exact z_iret X hI d_Home_taken_64
        · replace hm := zif_f hc46 hm
          refine lv_aload_n hx hb d_Home_taken_49 rfl (lv_at hl 1 rfl) ?_
          obtain ⟨v50, hv, hm⟩ := zbd hm
          refine z_getR X hI F_Home_20 hv d_Home_taken_50 ?_
          refine lv_iload_n hx hb d_Home_taken_53 rfl (lv_at hl 0 rfl) ?_
          obtain ⟨v54, hv, hm⟩ := zbd hm
          refine z_iald X hI hv d_Home_taken_54 ?_
          refine lv_iload_n hx hb d_Home_taken_55 rfl (lv_at hl 3 rfl) ?_
          obtain ⟨v56, hv, hm⟩ := zbd hm
          refine z_ci hI (z_runS (As := [.int v54, .int x2]) (rest := []) X hI hl.1 (c_Home_isUnder l G K v54 x2 h _ hv) C_Home_218 rfl (Nat.le_of_ble_eq_true rfl) ⟨Nat.le_of_ble_eq_true rfl, Nat.le_of_ble_eq_true rfl, Nat.zero_le _, Nat.zero_le _⟩ rfl d_Home_taken_56) (fun H locs hI => ?_)
          refine lv_if_ne (tgt := 65) hx hb d_Home_taken_59 (by decide) (fun hc59 => ?_) (fun hc59 => ?_)
          · replace hm := zif_f hc59 hm
            refine lv_aload_n hx hb d_Home_taken_65 rfl (lv_at hl 1 rfl) ?_
            obtain ⟨v66, hv, hm⟩ := zbd hm
            refine z_getR X hI F_Home_20 hv d_Home_taken_66 ?_
            refine lv_iload_n hx hb d_Home_taken_69 rfl (lv_at hl 0 rfl) ?_
            obtain ⟨v70, hv, hm⟩ := zbd hm
            refine z_iald X hI hv d_Home_taken_70 ?_
            obtain rfl := zs1 hm
            exact z_iret X hI d_Home_taken_71
          · replace hm := zif_t hc59 hm
            refine lv_bipush (v := (-12 : Int32)) hx hb d_Home_taken_62 (by decide) ?_
            obtain rfl := zs1 hm
            exact z_iret X hI d_Home_taken_64
      · replace hm := zif_f hc25 hm
        refine lv_bipush (v := (-11 : Int32)) hx hb d_Home_taken_28 (by decide) ?_
        obtain rfl := zs1 hm
        exact z_iret X hI d_Home_taken_30
    · replace hm := zif_t hc11 hm
      refine lv_iconst (v := (-1 : Int32)) hx hb d_Home_taken_14 (by decide) ?_
      obtain rfl := zs1 hm
      exact z_iret X hI d_Home_taken_15
set_option maxHeartbeats 4000000 in
set_option maxRecDepth 100000 in
theorem c_Home_taken (l : Launch) (G : zG) (K : Nat) (a0 : Nat) (x1 : Int32) (x2 : Int32) (h : zH) (r : Int32) (hm : m_Home_taken a0 x1 x2 h = some r) : zMi l G K y_Home_taken prog_1_method_27_code 4 2 [.ref (G.1 a0), .int x1, .int x2] h r h := zMet (by decide +kernel) (Nat.le_of_ble_eq_true rfl) (fun p e s m below meth c ls X hI hl => r_Home_taken_0 X a0 x1 x2 h hm hI hl)
-- walk of AllHome$Acts.ran
theorem d_Acts_ran_0 : decode prog_2_method_3_code 0 = .ok (.aload_n 0, 1) := by decide +kernel
theorem d_Acts_ran_1 : decode prog_2_method_3_code 1 = .ok (.getfield 15, 3) := by decide +kernel
theorem d_Acts_ran_4 : decode prog_2_method_3_code 4 = .ok (.ireturn, 1) := by decide +kernel
set_option maxHeartbeats 4000000 in
set_option maxRecDepth 100000 in
theorem r_Acts_ran_0 {p : Program} {l : Launch} {e : Env} {s : State} {m : MethodId} {args : Array Value} {below : List Frame} {meth : Method} {c : Code} {G : zG} {K : Nat} (X : zX p s m args meth c "AllHome$Acts" prog_2_method_3_code 1 (some .int) G (zA G K)) {r : Int32} (a0 : Nat) (h : zH) (hm : m_Acts_ran a0 h = some r) {H : Heap} {locs : List Loc} {ls : Array Slot} (hI : zI G K s (zA G K) H locs h) (hl : lv_has ls 1 [(0, .ref (G.1 a0))]) : W p l e (zR 0) s m args below meth c H locs 0 0 (MQ below (zQi G K r h) args s 0 0 (zA G K)) (F0 m 0 ls []) := by
  obtain ⟨hx, hb, hml, hown, hts, hr, hlocks, hK, hST, hNs⟩ := id X
  unfold m_Acts_ran at hm
  refine lv_aload_n hx hb d_Acts_ran_0 rfl (lv_at hl 0 rfl) ?_
  obtain ⟨v1, hv, hm⟩ := zbd hm
  refine z_getI X hI F_Acts_15 hv d_Acts_ran_1 ?_
  obtain rfl := zs1 hm
  exact z_iret X hI d_Acts_ran_4
set_option maxHeartbeats 4000000 in
set_option maxRecDepth 100000 in
theorem c_Acts_ran (l : Launch) (G : zG) (K : Nat) (a0 : Nat) (h : zH) (r : Int32) (hm : m_Acts_ran a0 h = some r) : zMi l G K y_Acts_ran prog_2_method_3_code 1 0 [.ref (G.1 a0)] h r h := zMet (by decide +kernel) (Nat.le_of_ble_eq_true rfl) (fun p e s m below meth c ls X hI hl => r_Acts_ran_0 X a0 h hm hI hl)
-- walk of AllHome.count
theorem d_Home_count_0 : decode prog_1_method_28_code 0 = .ok (.iload_n 1, 1) := by decide +kernel
theorem d_Home_count_1 : decode prog_1_method_28_code 1 = .ok (.tableswitch 66 0 4 #[35, 43, 48, 53, 58], 35) := by decide +kernel
theorem d_Home_count_36 : decode prog_1_method_28_code 36 = .ok (.aload_n 0, 1) := by decide +kernel
theorem d_Home_count_37 : decode prog_1_method_28_code 37 = .ok (.getfield 16, 3) := by decide +kernel
theorem d_Home_count_40 : decode prog_1_method_28_code 40 = .ok (.invokevirtual 66, 3) := by decide +kernel
theorem d_Home_count_43 : decode prog_1_method_28_code 43 = .ok (.ireturn, 1) := by decide +kernel
theorem d_Home_count_44 : decode prog_1_method_28_code 44 = .ok (.aload_n 0, 1) := by decide +kernel
theorem d_Home_count_45 : decode prog_1_method_28_code 45 = .ok (.getfield 96, 3) := by decide +kernel
theorem d_Home_count_48 : decode prog_1_method_28_code 48 = .ok (.ireturn, 1) := by decide +kernel
theorem d_Home_count_49 : decode prog_1_method_28_code 49 = .ok (.aload_n 0, 1) := by decide +kernel
theorem d_Home_count_50 : decode prog_1_method_28_code 50 = .ok (.getfield 63, 3) := by decide +kernel
theorem d_Home_count_53 : decode prog_1_method_28_code 53 = .ok (.ireturn, 1) := by decide +kernel
theorem d_Home_count_54 : decode prog_1_method_28_code 54 = .ok (.aload_n 0, 1) := by decide +kernel
theorem d_Home_count_55 : decode prog_1_method_28_code 55 = .ok (.getfield 59, 3) := by decide +kernel
theorem d_Home_count_58 : decode prog_1_method_28_code 58 = .ok (.ireturn, 1) := by decide +kernel
theorem d_Home_count_59 : decode prog_1_method_28_code 59 = .ok (.aload_n 0, 1) := by decide +kernel
theorem d_Home_count_60 : decode prog_1_method_28_code 60 = .ok (.getfield 47, 3) := by decide +kernel
theorem d_Home_count_63 : decode prog_1_method_28_code 63 = .ok (.invokevirtual 221, 3) := by decide +kernel
theorem d_Home_count_66 : decode prog_1_method_28_code 66 = .ok (.ireturn, 1) := by decide +kernel
theorem d_Home_count_67 : decode prog_1_method_28_code 67 = .ok (.iconst (-1), 1) := by decide +kernel
theorem d_Home_count_68 : decode prog_1_method_28_code 68 = .ok (.ireturn, 1) := by decide +kernel
set_option maxHeartbeats 4000000 in
set_option maxRecDepth 100000 in
theorem r_Home_count_0 {p : Program} {l : Launch} {e : Env} {s : State} {m : MethodId} {args : Array Value} {below : List Frame} {meth : Method} {c : Code} {G : zG} {K : Nat} (X : zX p s m args meth c "AllHome" prog_1_method_28_code 2 (some .int) G (zA G K)) {r : Int32} (a0 : Nat) (x1 : Int32) (h : zH) (hm : m_Home_count a0 x1 h = some r) {H : Heap} {locs : List Loc} {ls : Array Slot} (hI : zI G K s (zA G K) H locs h) (hl : lv_has ls 2 [(0, .ref (G.1 a0)), (1, .int x1)]) : W p l e (zR 1) s m args below meth c H locs 0 0 (MQ below (zQi G K r h) args s 0 0 (zA G K)) (F0 m 0 ls []) := by
  obtain ⟨hx, hb, hml, hown, hts, hr, hlocks, hK, hST, hNs⟩ := id X
  unfold m_Home_count at hm
  refine lv_iload_n hx hb d_Home_count_0 rfl (lv_at hl 1 rfl) ?_
  by_cases hs1_0 : x1 = (nI 0)
  · replace hm := zif_t hs1_0 hm
    refine lv_tableIn (off := 35) (tgt := 36) hx hb d_Home_count_1 (by rw [hs1_0]; decide) (by rw [hs1_0]; decide) (by rw [hs1_0]; rfl) (by decide) ?_
    refine lv_aload_n hx hb d_Home_count_36 rfl (lv_at hl 0 rfl) ?_
    obtain ⟨v37, hv, hm⟩ := zbd hm
    refine z_getR X hI F_Home_16 hv d_Home_count_37 ?_
    obtain ⟨v40, hv, hm⟩ := zbd hm
    obtain ⟨hq, hv⟩ := zcv_at hv
    refine z_ci hI (z_runV (As := []) (rest := []) X hI hl.1 (c_Huts_size l G K v37 h _ hv) C_Home_66 rfl hq (Nat.le_of_ble_eq_true rfl) ⟨Nat.le_of_ble_eq_true rfl, Nat.le_of_ble_eq_true rfl, Nat.zero_le _, Nat.zero_le _⟩ rfl d_Home_count_40) (fun H locs hI => ?_)
    obtain rfl := zs1 hm
    exact z_iret X hI d_Home_count_43
  · replace hm := zif_f hs1_0 hm
    by_cases hs1_1 : x1 = (nI 1)
    · replace hm := zif_t hs1_1 hm
      refine lv_tableIn (off := 43) (tgt := 44) hx hb d_Home_count_1 (by rw [hs1_1]; decide) (by rw [hs1_1]; decide) (by rw [hs1_1]; rfl) (by decide) ?_
      refine lv_aload_n hx hb d_Home_count_44 rfl (lv_at hl 0 rfl) ?_
      obtain ⟨v45, hv, hm⟩ := zbd hm
      refine z_getI X hI F_Home_96 hv d_Home_count_45 ?_
      obtain rfl := zs1 hm
      exact z_iret X hI d_Home_count_48
    · replace hm := zif_f hs1_1 hm
      by_cases hs1_2 : x1 = (nI 2)
      · replace hm := zif_t hs1_2 hm
        refine lv_tableIn (off := 48) (tgt := 49) hx hb d_Home_count_1 (by rw [hs1_2]; decide) (by rw [hs1_2]; decide) (by rw [hs1_2]; rfl) (by decide) ?_
        refine lv_aload_n hx hb d_Home_count_49 rfl (lv_at hl 0 rfl) ?_
        obtain ⟨v50, hv, hm⟩ := zbd hm
        refine z_getI X hI F_Home_63 hv d_Home_count_50 ?_
        obtain rfl := zs1 hm
        exact z_iret X hI d_Home_count_53
      · replace hm := zif_f hs1_2 hm
        by_cases hs1_3 : x1 = (nI 3)
        · replace hm := zif_t hs1_3 hm
          refine lv_tableIn (off := 53) (tgt := 54) hx hb d_Home_count_1 (by rw [hs1_3]; decide) (by rw [hs1_3]; decide) (by rw [hs1_3]; rfl) (by decide) ?_
          refine lv_aload_n hx hb d_Home_count_54 rfl (lv_at hl 0 rfl) ?_
          obtain ⟨v55, hv, hm⟩ := zbd hm
          refine z_getI X hI F_Home_59 hv d_Home_count_55 ?_
          obtain rfl := zs1 hm
          exact z_iret X hI d_Home_count_58
        · replace hm := zif_f hs1_3 hm
          by_cases hs1_4 : x1 = (nI 4)
          · replace hm := zif_t hs1_4 hm
            refine lv_tableIn (off := 58) (tgt := 59) hx hb d_Home_count_1 (by rw [hs1_4]; decide) (by rw [hs1_4]; decide) (by rw [hs1_4]; rfl) (by decide) ?_
            refine lv_aload_n hx hb d_Home_count_59 rfl (lv_at hl 0 rfl) ?_
            obtain ⟨v60, hv, hm⟩ := zbd hm
            refine z_getR X hI F_Home_47 hv d_Home_count_60 ?_
            obtain ⟨v63, hv, hm⟩ := zbd hm
            obtain ⟨hq, hv⟩ := zcv_at hv
            refine z_ci hI (z_runV (As := []) (rest := []) X hI hl.1 (c_Acts_ran l G K v60 h _ hv) C_Home_221 rfl hq (Nat.le_of_ble_eq_true rfl) ⟨Nat.le_of_ble_eq_true rfl, Nat.le_of_ble_eq_true rfl, Nat.zero_le _, Nat.zero_le _⟩ rfl d_Home_count_63) (fun H locs hI => ?_)
            obtain rfl := zs1 hm
            exact z_iret X hI d_Home_count_66
          · replace hm := zif_f hs1_4 hm
            have he0 : (x1).toInt ≠ 0 := fun q => hs1_0 (Int32.toInt_inj.mp (q.trans (by decide)))
            have he1 : (x1).toInt ≠ 1 := fun q => hs1_1 (Int32.toInt_inj.mp (q.trans (by decide)))
            have he2 : (x1).toInt ≠ 2 := fun q => hs1_2 (Int32.toInt_inj.mp (q.trans (by decide)))
            have he3 : (x1).toInt ≠ 3 := fun q => hs1_3 (Int32.toInt_inj.mp (q.trans (by decide)))
            have he4 : (x1).toInt ≠ 4 := fun q => hs1_4 (Int32.toInt_inj.mp (q.trans (by decide)))
            refine lv_tableOut (tgt := 67) hx hb d_Home_count_1 (by omega) (by decide) ?_
            refine lv_iconst (v := (-1 : Int32)) hx hb d_Home_count_67 (by decide) ?_
            obtain rfl := zs1 hm
            exact z_iret X hI d_Home_count_68
set_option maxHeartbeats 4000000 in
set_option maxRecDepth 100000 in
theorem c_Home_count (l : Launch) (G : zG) (K : Nat) (a0 : Nat) (x1 : Int32) (h : zH) (r : Int32) (hm : m_Home_count a0 x1 h = some r) : zMi l G K y_Home_count prog_1_method_28_code 2 1 [.ref (G.1 a0), .int x1] h r h := zMet (by decide +kernel) (Nat.le_of_ble_eq_true rfl) (fun p e s m below meth c ls X hI hl => r_Home_count_0 X a0 x1 h hm hI hl)
-- walk of AllHomeModel.within
theorem d_Model_within_0 : decode prog_9_method_2_code 0 = .ok (.lload_n 0, 1) := by decide +kernel
theorem d_Model_within_1 : decode prog_9_method_2_code 1 = .ok (.lload_n 2, 1) := by decide +kernel
theorem d_Model_within_2 : decode prog_9_method_2_code 2 = .ok (.lcmp, 1) := by decide +kernel
theorem d_Model_within_3 : decode prog_9_method_2_code 3 = .ok (.ifCond .lt 14, 3) := by decide +kernel
theorem d_Model_within_6 : decode prog_9_method_2_code 6 = .ok (.lload_n 0, 1) := by decide +kernel
theorem d_Model_within_7 : decode prog_9_method_2_code 7 = .ok (.lload 4, 2) := by decide +kernel
theorem d_Model_within_9 : decode prog_9_method_2_code 9 = .ok (.lcmp, 1) := by decide +kernel
theorem d_Model_within_10 : decode prog_9_method_2_code 10 = .ok (.ifCond .gt 7, 3) := by decide +kernel
theorem d_Model_within_13 : decode prog_9_method_2_code 13 = .ok (.iconst 1, 1) := by decide +kernel
theorem d_Model_within_14 : decode prog_9_method_2_code 14 = .ok (.goto 4, 3) := by decide +kernel
theorem d_Model_within_17 : decode prog_9_method_2_code 17 = .ok (.iconst 0, 1) := by decide +kernel
theorem d_Model_within_18 : decode prog_9_method_2_code 18 = .ok (.ireturn, 1) := by decide +kernel
set_option maxHeartbeats 4000000 in
set_option maxRecDepth 100000 in
theorem r_Model_within_0 {p : Program} {l : Launch} {e : Env} {s : State} {m : MethodId} {args : Array Value} {below : List Frame} {meth : Method} {c : Code} {G : zG} {K : Nat} (X : zX p s m args meth c "AllHomeModel" prog_9_method_2_code 6 (some .boolean) G (zA G K)) {r : Int32} (x0 : Int64) (x2 : Int64) (x4 : Int64) (h : zH) (hm : m_Model_within x0 x2 x4 h = some r) {H : Heap} {locs : List Loc} {ls : Array Slot} (hI : zI G K s (zA G K) H locs h) (hl : lv_has ls 6 [(0, .long x0), (2, .long x2), (4, .long x4)]) : W p l e (zR 0) s m args below meth c H locs 0 0 (MQ below (zQi G K r h) args s 0 0 (zA G K)) (F0 m 0 ls []) := by
  obtain ⟨hx, hb, hml, hown, hts, hr, hlocks, hK, hST, hNs⟩ := id X
  unfold m_Model_within at hm
  refine lv_lload_n hx hb d_Model_within_0 rfl (lv_at hl 0 rfl) ?_
  refine lv_lload_n hx hb d_Model_within_1 rfl (lv_at hl 1 rfl) ?_
  refine W.lcmp hx hb d_Model_within_2 ?_
  refine lv_if_lt (tgt := 17) hx hb d_Model_within_3 (by decide) (fun hc3 => ?_) (fun hc3 => ?_)
  · replace hm := zif_t hc3 hm
    refine lv_iconst (v := (nI 0)) hx hb d_Model_within_17 (by decide) ?_
    obtain rfl := zs1 hm
    exact z_zret X hI (by decide) d_Model_within_18
  · replace hm := zif_f hc3 hm
    refine lv_lload_n hx hb d_Model_within_6 rfl (lv_at hl 0 rfl) ?_
    refine lv_lload hx hb d_Model_within_7 (lv_at hl 2 rfl) ?_
    refine W.lcmp hx hb d_Model_within_9 ?_
    refine lv_if_gt (tgt := 17) hx hb d_Model_within_10 (by decide) (fun hc10 => ?_) (fun hc10 => ?_)
    · replace hm := zif_t hc10 hm
      refine lv_iconst (v := (nI 0)) hx hb d_Model_within_17 (by decide) ?_
      obtain rfl := zs1 hm
      exact z_zret X hI (by decide) d_Model_within_18
    · replace hm := zif_f hc10 hm
      refine lv_iconst (v := (nI 1)) hx hb d_Model_within_13 (by decide) ?_
      refine lv_goto (tgt := 18) hx hb d_Model_within_14 (by decide) ?_
      obtain rfl := zs1 hm
      exact z_zret X hI (by decide) d_Model_within_18
set_option maxHeartbeats 4000000 in
set_option maxRecDepth 100000 in
theorem c_Model_within (l : Launch) (G : zG) (K : Nat) (x0 : Int64) (x2 : Int64) (x4 : Int64) (h : zH) (r : Int32) (hm : m_Model_within x0 x2 x4 h = some r) : zMz l G K y_Model_within prog_9_method_2_code 6 0 [.long x0, .long x2, .long x4] h r h := zMet (by decide +kernel) (Nat.le_of_ble_eq_true rfl) (fun p e s m below meth c ls X hI hl => r_Model_within_0 X x0 x2 x4 h hm hI hl)
-- walk of AllHomeModel.isHut
theorem d_Model_isHut_0 : decode prog_9_method_3_code 0 = .ok (.iload_n 1, 1) := by decide +kernel
theorem d_Model_isHut_1 : decode prog_9_method_3_code 1 = .ok (.ifCond .lt 15, 3) := by decide +kernel
theorem d_Model_isHut_4 : decode prog_9_method_3_code 4 = .ok (.iload_n 1, 1) := by decide +kernel
theorem d_Model_isHut_5 : decode prog_9_method_3_code 5 = .ok (.aload_n 0, 1) := by decide +kernel
theorem d_Model_isHut_6 : decode prog_9_method_3_code 6 = .ok (.getfield 78, 3) := by decide +kernel
theorem d_Model_isHut_9 : decode prog_9_method_3_code 9 = .ok (.if_icmp .ge 7, 3) := by decide +kernel
theorem d_Model_isHut_12 : decode prog_9_method_3_code 12 = .ok (.iconst 1, 1) := by decide +kernel
theorem d_Model_isHut_13 : decode prog_9_method_3_code 13 = .ok (.goto 4, 3) := by decide +kernel
theorem d_Model_isHut_16 : decode prog_9_method_3_code 16 = .ok (.iconst 0, 1) := by decide +kernel
theorem d_Model_isHut_17 : decode prog_9_method_3_code 17 = .ok (.ireturn, 1) := by decide +kernel
set_option maxHeartbeats 4000000 in
set_option maxRecDepth 100000 in
theorem r_Model_isHut_0 {p : Program} {l : Launch} {e : Env} {s : State} {m : MethodId} {args : Array Value} {below : List Frame} {meth : Method} {c : Code} {G : zG} {K : Nat} (X : zX p s m args meth c "AllHomeModel" prog_9_method_3_code 2 (some .boolean) G (zA G K)) {r : Int32} (a0 : Nat) (x1 : Int32) (h : zH) (hm : m_Model_isHut a0 x1 h = some r) {H : Heap} {locs : List Loc} {ls : Array Slot} (hI : zI G K s (zA G K) H locs h) (hl : lv_has ls 2 [(0, .ref (G.1 a0)), (1, .int x1)]) : W p l e (zR 0) s m args below meth c H locs 0 0 (MQ below (zQi G K r h) args s 0 0 (zA G K)) (F0 m 0 ls []) := by
  obtain ⟨hx, hb, hml, hown, hts, hr, hlocks, hK, hST, hNs⟩ := id X
  unfold m_Model_isHut at hm
  refine lv_iload_n hx hb d_Model_isHut_0 rfl (lv_at hl 1 rfl) ?_
  refine lv_if_lt (tgt := 16) hx hb d_Model_isHut_1 (by decide) (fun hc1 => ?_) (fun hc1 => ?_)
  · replace hm := zif_t hc1 hm
    refine lv_iconst (v := (nI 0)) hx hb d_Model_isHut_16 (by decide) ?_
    obtain rfl := zs1 hm
    exact z_zret X hI (by decide) d_Model_isHut_17
  · replace hm := zif_f hc1 hm
    refine lv_iload_n hx hb d_Model_isHut_4 rfl (lv_at hl 1 rfl) ?_
    refine lv_aload_n hx hb d_Model_isHut_5 rfl (lv_at hl 0 rfl) ?_
    obtain ⟨v6, hv, hm⟩ := zbd hm
    refine z_getI X hI F_Model_78 hv d_Model_isHut_6 ?_
    refine lv_icmp_ge (tgt := 16) hx hb d_Model_isHut_9 (by decide) (fun hc9 => ?_) (fun hc9 => ?_)
    · replace hm := zif_t hc9 hm
      refine lv_iconst (v := (nI 0)) hx hb d_Model_isHut_16 (by decide) ?_
      obtain rfl := zs1 hm
      exact z_zret X hI (by decide) d_Model_isHut_17
    · replace hm := zif_f hc9 hm
      refine lv_iconst (v := (nI 1)) hx hb d_Model_isHut_12 (by decide) ?_
      refine lv_goto (tgt := 17) hx hb d_Model_isHut_13 (by decide) ?_
      obtain rfl := zs1 hm
      exact z_zret X hI (by decide) d_Model_isHut_17
set_option maxHeartbeats 4000000 in
set_option maxRecDepth 100000 in
theorem c_Model_isHut (l : Launch) (G : zG) (K : Nat) (a0 : Nat) (x1 : Int32) (h : zH) (r : Int32) (hm : m_Model_isHut a0 x1 h = some r) : zMz l G K y_Model_isHut prog_9_method_3_code 2 0 [.ref (G.1 a0), .int x1] h r h := zMet (by decide +kernel) (Nat.le_of_ble_eq_true rfl) (fun p e s m below meth c ls X hI hl => r_Model_isHut_0 X a0 x1 h hm hI hl)
-- walk of AllHomeModel.isWay
theorem d_Model_isWay_0 : decode prog_9_method_4_code 0 = .ok (.iload_n 1, 1) := by decide +kernel
theorem d_Model_isWay_1 : decode prog_9_method_4_code 1 = .ok (.ifCond .lt 15, 3) := by decide +kernel
theorem d_Model_isWay_4 : decode prog_9_method_4_code 4 = .ok (.iload_n 1, 1) := by decide +kernel
theorem d_Model_isWay_5 : decode prog_9_method_4_code 5 = .ok (.aload_n 0, 1) := by decide +kernel
theorem d_Model_isWay_6 : decode prog_9_method_4_code 6 = .ok (.getfield 82, 3) := by decide +kernel
theorem d_Model_isWay_9 : decode prog_9_method_4_code 9 = .ok (.if_icmp .ge 7, 3) := by decide +kernel
theorem d_Model_isWay_12 : decode prog_9_method_4_code 12 = .ok (.iconst 1, 1) := by decide +kernel
theorem d_Model_isWay_13 : decode prog_9_method_4_code 13 = .ok (.goto 4, 3) := by decide +kernel
theorem d_Model_isWay_16 : decode prog_9_method_4_code 16 = .ok (.iconst 0, 1) := by decide +kernel
theorem d_Model_isWay_17 : decode prog_9_method_4_code 17 = .ok (.ireturn, 1) := by decide +kernel
set_option maxHeartbeats 4000000 in
set_option maxRecDepth 100000 in
theorem r_Model_isWay_0 {p : Program} {l : Launch} {e : Env} {s : State} {m : MethodId} {args : Array Value} {below : List Frame} {meth : Method} {c : Code} {G : zG} {K : Nat} (X : zX p s m args meth c "AllHomeModel" prog_9_method_4_code 2 (some .boolean) G (zA G K)) {r : Int32} (a0 : Nat) (x1 : Int32) (h : zH) (hm : m_Model_isWay a0 x1 h = some r) {H : Heap} {locs : List Loc} {ls : Array Slot} (hI : zI G K s (zA G K) H locs h) (hl : lv_has ls 2 [(0, .ref (G.1 a0)), (1, .int x1)]) : W p l e (zR 0) s m args below meth c H locs 0 0 (MQ below (zQi G K r h) args s 0 0 (zA G K)) (F0 m 0 ls []) := by
  obtain ⟨hx, hb, hml, hown, hts, hr, hlocks, hK, hST, hNs⟩ := id X
  unfold m_Model_isWay at hm
  refine lv_iload_n hx hb d_Model_isWay_0 rfl (lv_at hl 1 rfl) ?_
  refine lv_if_lt (tgt := 16) hx hb d_Model_isWay_1 (by decide) (fun hc1 => ?_) (fun hc1 => ?_)
  · replace hm := zif_t hc1 hm
    refine lv_iconst (v := (nI 0)) hx hb d_Model_isWay_16 (by decide) ?_
    obtain rfl := zs1 hm
    exact z_zret X hI (by decide) d_Model_isWay_17
  · replace hm := zif_f hc1 hm
    refine lv_iload_n hx hb d_Model_isWay_4 rfl (lv_at hl 1 rfl) ?_
    refine lv_aload_n hx hb d_Model_isWay_5 rfl (lv_at hl 0 rfl) ?_
    obtain ⟨v6, hv, hm⟩ := zbd hm
    refine z_getI X hI F_Model_82 hv d_Model_isWay_6 ?_
    refine lv_icmp_ge (tgt := 16) hx hb d_Model_isWay_9 (by decide) (fun hc9 => ?_) (fun hc9 => ?_)
    · replace hm := zif_t hc9 hm
      refine lv_iconst (v := (nI 0)) hx hb d_Model_isWay_16 (by decide) ?_
      obtain rfl := zs1 hm
      exact z_zret X hI (by decide) d_Model_isWay_17
    · replace hm := zif_f hc9 hm
      refine lv_iconst (v := (nI 1)) hx hb d_Model_isWay_12 (by decide) ?_
      refine lv_goto (tgt := 17) hx hb d_Model_isWay_13 (by decide) ?_
      obtain rfl := zs1 hm
      exact z_zret X hI (by decide) d_Model_isWay_17
set_option maxHeartbeats 4000000 in
set_option maxRecDepth 100000 in
theorem c_Model_isWay (l : Launch) (G : zG) (K : Nat) (a0 : Nat) (x1 : Int32) (h : zH) (r : Int32) (hm : m_Model_isWay a0 x1 h = some r) : zMz l G K y_Model_isWay prog_9_method_4_code 2 0 [.ref (G.1 a0), .int x1] h r h := zMet (by decide +kernel) (Nat.le_of_ble_eq_true rfl) (fun p e s m below meth c ls X hI hl => r_Model_isWay_0 X a0 x1 h hm hI hl)
-- walk of AllHomeModel.feed
theorem d_Model_feed_0 : decode prog_9_method_5_code 0 = .ok (.iload_n 1, 1) := by decide +kernel
theorem d_Model_feed_1 : decode prog_9_method_5_code 1 = .ok (.i2l, 1) := by decide +kernel
theorem d_Model_feed_2 : decode prog_9_method_5_code 2 = .ok (.lconst 1, 1) := by decide +kernel
theorem d_Model_feed_3 : decode prog_9_method_5_code 3 = .ok (.ldc2_w 85, 3) := by decide +kernel
theorem d_Model_feed_6 : decode prog_9_method_5_code 6 = .ok (.invokestatic 87, 3) := by decide +kernel
theorem d_Model_feed_9 : decode prog_9_method_5_code 9 = .ok (.ifCond .ne 5, 3) := by decide +kernel
theorem d_Model_feed_12 : decode prog_9_method_5_code 12 = .ok (.iconst (-1), 1) := by decide +kernel
theorem d_Model_feed_13 : decode prog_9_method_5_code 13 = .ok (.ireturn, 1) := by decide +kernel
theorem d_Model_feed_14 : decode prog_9_method_5_code 14 = .ok (.aload_n 0, 1) := by decide +kernel
theorem d_Model_feed_15 : decode prog_9_method_5_code 15 = .ok (.getfield 91, 3) := by decide +kernel
theorem d_Model_feed_18 : decode prog_9_method_5_code 18 = .ok (.iload_n 1, 1) := by decide +kernel
theorem d_Model_feed_19 : decode prog_9_method_5_code 19 = .ok (.iadd, 1) := by decide +kernel
theorem d_Model_feed_20 : decode prog_9_method_5_code 20 = .ok (.bipush 60, 2) := by decide +kernel
theorem d_Model_feed_22 : decode prog_9_method_5_code 22 = .ok (.if_icmp .le 6, 3) := by decide +kernel
theorem d_Model_feed_25 : decode prog_9_method_5_code 25 = .ok (.bipush (-3), 2) := by decide +kernel
theorem d_Model_feed_27 : decode prog_9_method_5_code 27 = .ok (.ireturn, 1) := by decide +kernel
theorem d_Model_feed_28 : decode prog_9_method_5_code 28 = .ok (.iconst 0, 1) := by decide +kernel
theorem d_Model_feed_29 : decode prog_9_method_5_code 29 = .ok (.istore_n 3, 1) := by decide +kernel
theorem d_Model_feed_30 : decode prog_9_method_5_code 30 = .ok (.iload_n 3, 1) := by decide +kernel
theorem d_Model_feed_31 : decode prog_9_method_5_code 31 = .ok (.iload_n 1, 1) := by decide +kernel
theorem d_Model_feed_32 : decode prog_9_method_5_code 32 = .ok (.if_icmp .ge 38, 3) := by decide +kernel
theorem d_Model_feed_35 : decode prog_9_method_5_code 35 = .ok (.aload_n 0, 1) := by decide +kernel
theorem d_Model_feed_36 : decode prog_9_method_5_code 36 = .ok (.getfield 9, 3) := by decide +kernel
theorem d_Model_feed_39 : decode prog_9_method_5_code 39 = .ok (.aload_n 0, 1) := by decide +kernel
theorem d_Model_feed_40 : decode prog_9_method_5_code 40 = .ok (.getfield 91, 3) := by decide +kernel
theorem d_Model_feed_43 : decode prog_9_method_5_code 43 = .ok (.iload_n 2, 1) := by decide +kernel
theorem d_Model_feed_44 : decode prog_9_method_5_code 44 = .ok (.bipush 8, 2) := by decide +kernel
theorem d_Model_feed_46 : decode prog_9_method_5_code 46 = .ok (.iload_n 3, 1) := by decide +kernel
theorem d_Model_feed_47 : decode prog_9_method_5_code 47 = .ok (.imul, 1) := by decide +kernel
theorem d_Model_feed_48 : decode prog_9_method_5_code 48 = .ok (.ishr, 1) := by decide +kernel
theorem d_Model_feed_49 : decode prog_9_method_5_code 49 = .ok (.sipush 255, 3) := by decide +kernel
theorem d_Model_feed_52 : decode prog_9_method_5_code 52 = .ok (.iand, 1) := by decide +kernel
theorem d_Model_feed_53 : decode prog_9_method_5_code 53 = .ok (.iastore, 1) := by decide +kernel
theorem d_Model_feed_54 : decode prog_9_method_5_code 54 = .ok (.aload_n 0, 1) := by decide +kernel
theorem d_Model_feed_55 : decode prog_9_method_5_code 55 = .ok (.dup, 1) := by decide +kernel
theorem d_Model_feed_56 : decode prog_9_method_5_code 56 = .ok (.getfield 91, 3) := by decide +kernel
theorem d_Model_feed_59 : decode prog_9_method_5_code 59 = .ok (.iconst 1, 1) := by decide +kernel
theorem d_Model_feed_60 : decode prog_9_method_5_code 60 = .ok (.iadd, 1) := by decide +kernel
theorem d_Model_feed_61 : decode prog_9_method_5_code 61 = .ok (.putfield 91, 3) := by decide +kernel
theorem d_Model_feed_64 : decode prog_9_method_5_code 64 = .ok (.iinc 3 1, 3) := by decide +kernel
theorem d_Model_feed_67 : decode prog_9_method_5_code 67 = .ok (.goto (-37), 3) := by decide +kernel
theorem d_Model_feed_70 : decode prog_9_method_5_code 70 = .ok (.aload_n 0, 1) := by decide +kernel
theorem d_Model_feed_71 : decode prog_9_method_5_code 71 = .ok (.getfield 91, 3) := by decide +kernel
theorem d_Model_feed_74 : decode prog_9_method_5_code 74 = .ok (.ireturn, 1) := by decide +kernel
set_option maxHeartbeats 4000000 in
set_option maxRecDepth 100000 in
theorem r_Model_feed_30_b {p : Program} {l : Launch} {e : Env} {s : State} {m : MethodId} {args : Array Value} {below : List Frame} {meth : Method} {c : Code} {G : zG} {K : Nat} (X : zX p s m args meth c "AllHomeModel" prog_9_method_5_code 4 (some .int) G (zA G K)) {r : Int32} {h' : zH} (a0 : Nat) (x1 : Int32) (x2 : Int32) (k30 : (Int32 × zH) → Option (Int32 × zH)) (hk30 : ∀ (w : Int32 × zH), k30 w = some (r, h') → ∀ (H : Heap) (locs : List Loc) (ls : Array Slot), zI G K s (zA G K) H locs w.2 → lv_has ls 4 [(0, .ref (G.1 a0)), (1, .int x1), (2, .int x2), (3, .int w.1)] → W p l e (zR 1) s m args below meth c H locs 0 0 (MQ below (zQi G K r h') args s 0 0 (zA G K)) (F0 m 30 ls [])) (u : Int32 × zH) (hm : g_Model_feed_30 a0 x1 x2 k30 u = some (r, h')) {H : Heap} {locs : List Loc} {ls : Array Slot} (hI : zI G K s (zA G K) H locs u.2) (hl : lv_has ls 4 [(0, .ref (G.1 a0)), (1, .int x1), (2, .int x2), (3, .int u.1)]) : W p l e (zR 1) s m args below meth c H locs 0 0 (MQ below (zQi G K r h') args s 0 0 (zA G K)) (F0 m 30 ls []) := by
  obtain ⟨hx, hb, hml, hown, hts, hr, hlocks, hK, hST, hNs⟩ := id X
  unfold g_Model_feed_30 at hm
  refine lv_iload_n hx hb d_Model_feed_30 rfl (lv_at hl 3 rfl) ?_
  refine lv_iload_n hx hb d_Model_feed_31 rfl (lv_at hl 1 rfl) ?_
  refine lv_icmp_ge (tgt := 70) hx hb d_Model_feed_32 (by decide) (fun hc32 => ?_) (fun hc32 => ?_)
  · replace hm := zif_t hc32 hm
    refine lv_aload_n hx hb d_Model_feed_70 rfl (lv_at hl 0 rfl) ?_
    obtain ⟨v71, hv, hm⟩ := zbd hm
    refine z_getI X hI F_Model_91 hv d_Model_feed_71 ?_
    obtain ⟨rfl, rfl⟩ := zs2 hm
    exact z_iret X hI d_Model_feed_74
  · replace hm := zif_f hc32 hm
    refine lv_aload_n hx hb d_Model_feed_35 rfl (lv_at hl 0 rfl) ?_
    obtain ⟨v36, hv, hm⟩ := zbd hm
    refine z_getR X hI F_Model_9 hv d_Model_feed_36 ?_
    refine lv_aload_n hx hb d_Model_feed_39 rfl (lv_at hl 0 rfl) ?_
    obtain ⟨v40, hv, hm⟩ := zbd hm
    refine z_getI X hI F_Model_91 hv d_Model_feed_40 ?_
    refine lv_iload_n hx hb d_Model_feed_43 rfl (lv_at hl 2 rfl) ?_
    refine lv_bipush (v := (nI 8)) hx hb d_Model_feed_44 (by decide) ?_
    refine lv_iload_n hx hb d_Model_feed_46 rfl (lv_at hl 3 rfl) ?_
    refine lv_imul hx hb d_Model_feed_47 ?_
    refine lv_ishr hx hb d_Model_feed_48 ?_
    refine lv_sipush (v := (nI 255)) hx hb d_Model_feed_49 (by decide) ?_
    refine lv_iand hx hb d_Model_feed_52 ?_
    obtain ⟨h53, hv, hm⟩ := zbd hm
    refine z_iast X hI hv d_Model_feed_53 (fun H locs hI => ?_)
    refine lv_aload_n hx hb d_Model_feed_54 rfl (lv_at hl 0 rfl) ?_
    refine lv_dup hx hb d_Model_feed_55 rfl ?_
    obtain ⟨v56, hv, hm⟩ := zbd hm
    refine z_getI X hI F_Model_91 hv d_Model_feed_56 ?_
    refine lv_iconst (v := (nI 1)) hx hb d_Model_feed_59 (by decide) ?_
    refine lv_iadd hx hb d_Model_feed_60 ?_
    obtain ⟨h61, hv, hm⟩ := zbd hm
    refine z_putI X hI P_Model_91 hv d_Model_feed_61 (fun H locs hI => ?_)
    refine lv_iinc (v := (u.1 + (nI 1))) (lv' := [(3, .int (u.1 + (nI 1))), (0, .ref (G.1 a0)), (1, .int x1), (2, .int x2)]) hx hb d_Model_feed_64 hl (k := 3) rfl (congrArg (fun z => u.1 + z) (show Int32.ofInt (1) = (nI 1) by decide)) (by decide) rfl (fun ls hl => ?_)
    refine lv_goto (tgt := 30) hx hb d_Model_feed_67 (by decide) ?_
    obtain ⟨g0, e0⟩ : ∃ z, z = (u.1 + (nI 1)) := ⟨_, rfl⟩
    rw [← e0] at hm hl
    exact hk30 (g0, h61) hm _ _ _ hI (lv_sub hl [1, 2, 3, 0] rfl)
theorem r_Model_feed_30 {p : Program} {l : Launch} {e : Env} {s : State} {m : MethodId} {args : Array Value} {below : List Frame} {meth : Method} {c : Code} {G : zG} {K : Nat} (X : zX p s m args meth c "AllHomeModel" prog_9_method_5_code 4 (some .int) G (zA G K)) {r : Int32} {h' : zH} (a0 : Nat) (x1 : Int32) (x2 : Int32) : ∀ (n : Nat) (w : Int32 × zH), zloop (g_Model_feed_30 a0 x1 x2) n w = some (r, h') → ∀ (H : Heap) (locs : List Loc) (ls : Array Slot), zI G K s (zA G K) H locs w.2 → lv_has ls 4 [(0, .ref (G.1 a0)), (1, .int x1), (2, .int x2), (3, .int w.1)] → W p l e (zR 1) s m args below meth c H locs 0 0 (MQ below (zQi G K r h') args s 0 0 (zA G K)) (F0 m 30 ls []) := by
  intro n
  induction n with
  | zero => intro w hm; cases hm
  | succ n ih => intro w hm H locs ls hI hl; exact r_Model_feed_30_b X a0 x1 x2 (zloop (g_Model_feed_30 a0 x1 x2) n) ih w (zls hm) hI hl
set_option maxHeartbeats 4000000 in
set_option maxRecDepth 100000 in
theorem r_Model_feed_0 {p : Program} {l : Launch} {e : Env} {s : State} {m : MethodId} {args : Array Value} {below : List Frame} {meth : Method} {c : Code} {G : zG} {K : Nat} (X : zX p s m args meth c "AllHomeModel" prog_9_method_5_code 4 (some .int) G (zA G K)) {r : Int32} {h' : zH} (a0 : Nat) (x1 : Int32) (x2 : Int32) (h : zH) (hm : m_Model_feed a0 x1 x2 h = some (r, h')) {H : Heap} {locs : List Loc} {ls : Array Slot} (hI : zI G K s (zA G K) H locs h) (hl : lv_has ls 4 [(0, .ref (G.1 a0)), (1, .int x1), (2, .int x2)]) : W p l e (zR 1) s m args below meth c H locs 0 0 (MQ below (zQi G K r h') args s 0 0 (zA G K)) (F0 m 0 ls []) := by
  obtain ⟨hx, hb, hml, hown, hts, hr, hlocks, hK, hST, hNs⟩ := id X
  unfold m_Model_feed at hm
  refine lv_iload_n hx hb d_Model_feed_0 rfl (lv_at hl 1 rfl) ?_
  refine lv_i2l hx hb d_Model_feed_1 rfl ?_
  refine lv_lconst (v := 1) hx hb d_Model_feed_2 (by decide) ?_
  refine lv_ldc2 hx hb hown (hts _ kw777) d_Model_feed_3 ?_
  obtain ⟨v6, hv, hm⟩ := zbd hm
  refine z_ci hI (z_runS (As := [.long x1.toInt64, .long (1 : Int64), .long (4 : Int64)]) (rest := []) X hI hl.1 (c_Model_within l G K x1.toInt64 (1 : Int64) (4 : Int64) h _ hv) C_Model_87 rfl (Nat.le_of_ble_eq_true rfl) ⟨Nat.le_of_ble_eq_true rfl, Nat.le_of_ble_eq_true rfl, Nat.zero_le _, Nat.zero_le _⟩ rfl d_Model_feed_6) (fun H locs hI => ?_)
  refine lv_if_ne (tgt := 14) hx hb d_Model_feed_9 (by decide) (fun hc9 => ?_) (fun hc9 => ?_)
  · replace hm := zif_f hc9 hm
    refine lv_aload_n hx hb d_Model_feed_14 rfl (lv_at hl 0 rfl) ?_
    obtain ⟨v15, hv, hm⟩ := zbd hm
    refine z_getI X hI F_Model_91 hv d_Model_feed_15 ?_
    refine lv_iload_n hx hb d_Model_feed_18 rfl (lv_at hl 1 rfl) ?_
    refine lv_iadd hx hb d_Model_feed_19 ?_
    refine lv_bipush (v := (nI 60)) hx hb d_Model_feed_20 (by decide) ?_
    refine lv_icmp_le (tgt := 28) hx hb d_Model_feed_22 (by decide) (fun hc22 => ?_) (fun hc22 => ?_)
    · replace hm := zif_t hc22 hm
      refine lv_iconst (v := (nI 0)) hx hb d_Model_feed_28 (by decide) ?_
      refine lv_istore_n (lv' := [(3, .int (nI 0)), (0, .ref (G.1 a0)), (1, .int x1), (2, .int x2)]) hx hb d_Model_feed_29 rfl hl (by decide) rfl (fun ls hl => ?_)
      exact r_Model_feed_30 X a0 x1 x2 zN ((nI 0), h) hm _ _ _ hI (lv_sub hl [1, 2, 3, 0] rfl)
    · replace hm := zif_f hc22 hm
      refine lv_bipush (v := (-3 : Int32)) hx hb d_Model_feed_25 (by decide) ?_
      obtain ⟨rfl, rfl⟩ := zs2 hm
      exact z_iret X hI d_Model_feed_27
  · replace hm := zif_t hc9 hm
    refine lv_iconst (v := (-1 : Int32)) hx hb d_Model_feed_12 (by decide) ?_
    obtain ⟨rfl, rfl⟩ := zs2 hm
    exact z_iret X hI d_Model_feed_13
set_option maxHeartbeats 4000000 in
set_option maxRecDepth 100000 in
theorem c_Model_feed (l : Launch) (G : zG) (K : Nat) (a0 : Nat) (x1 : Int32) (x2 : Int32) (h : zH) (r : Int32) (h' : zH) (hm : m_Model_feed a0 x1 x2 h = some (r, h')) : zMi l G K y_Model_feed prog_9_method_5_code 4 1 [.ref (G.1 a0), .int x1, .int x2] h r h' := zMet (by decide +kernel) (Nat.le_of_ble_eq_true rfl) (fun p e s m below meth c ls X hI hl => r_Model_feed_0 X a0 x1 x2 h hm hI hl)
-- walk of AllHomeModel.isOther
theorem d_Model_isOther_0 : decode prog_9_method_6_code 0 = .ok (.iload_n 0, 1) := by decide +kernel
theorem d_Model_isOther_1 : decode prog_9_method_6_code 1 = .ok (.i2l, 1) := by decide +kernel
theorem d_Model_isOther_2 : decode prog_9_method_6_code 2 = .ok (.ldc2_w 94, 3) := by decide +kernel
theorem d_Model_isOther_5 : decode prog_9_method_6_code 5 = .ok (.ldc2_w 96, 3) := by decide +kernel
theorem d_Model_isOther_8 : decode prog_9_method_6_code 8 = .ok (.invokestatic 87, 3) := by decide +kernel
theorem d_Model_isOther_11 : decode prog_9_method_6_code 11 = .ok (.ifCond .eq 15, 3) := by decide +kernel
theorem d_Model_isOther_14 : decode prog_9_method_6_code 14 = .ok (.iload_n 0, 1) := by decide +kernel
theorem d_Model_isOther_15 : decode prog_9_method_6_code 15 = .ok (.bipush 97, 2) := by decide +kernel
theorem d_Model_isOther_17 : decode prog_9_method_6_code 17 = .ok (.isub, 1) := by decide +kernel
theorem d_Model_isOther_18 : decode prog_9_method_6_code 18 = .ok (.iload_n 1, 1) := by decide +kernel
theorem d_Model_isOther_19 : decode prog_9_method_6_code 19 = .ok (.if_icmp .eq 7, 3) := by decide +kernel
theorem d_Model_isOther_22 : decode prog_9_method_6_code 22 = .ok (.iconst 1, 1) := by decide +kernel
theorem d_Model_isOther_23 : decode prog_9_method_6_code 23 = .ok (.goto 4, 3) := by decide +kernel
theorem d_Model_isOther_26 : decode prog_9_method_6_code 26 = .ok (.iconst 0, 1) := by decide +kernel
theorem d_Model_isOther_27 : decode prog_9_method_6_code 27 = .ok (.ireturn, 1) := by decide +kernel
set_option maxHeartbeats 4000000 in
set_option maxRecDepth 100000 in
theorem r_Model_isOther_0 {p : Program} {l : Launch} {e : Env} {s : State} {m : MethodId} {args : Array Value} {below : List Frame} {meth : Method} {c : Code} {G : zG} {K : Nat} (X : zX p s m args meth c "AllHomeModel" prog_9_method_6_code 2 (some .boolean) G (zA G K)) {r : Int32} (x0 : Int32) (x1 : Int32) (h : zH) (hm : m_Model_isOther x0 x1 h = some r) {H : Heap} {locs : List Loc} {ls : Array Slot} (hI : zI G K s (zA G K) H locs h) (hl : lv_has ls 2 [(0, .int x0), (1, .int x1)]) : W p l e (zR 1) s m args below meth c H locs 0 0 (MQ below (zQi G K r h) args s 0 0 (zA G K)) (F0 m 0 ls []) := by
  obtain ⟨hx, hb, hml, hown, hts, hr, hlocks, hK, hST, hNs⟩ := id X
  unfold m_Model_isOther at hm
  refine lv_iload_n hx hb d_Model_isOther_0 rfl (lv_at hl 0 rfl) ?_
  refine lv_i2l hx hb d_Model_isOther_1 rfl ?_
  refine lv_ldc2 hx hb hown (hts _ kw794) d_Model_isOther_2 ?_
  refine lv_ldc2 hx hb hown (hts _ kw795) d_Model_isOther_5 ?_
  obtain ⟨v8, hv, hm⟩ := zbd hm
  refine z_ci hI (z_runS (As := [.long x0.toInt64, .long (97 : Int64), .long (102 : Int64)]) (rest := []) X hI hl.1 (c_Model_within l G K x0.toInt64 (97 : Int64) (102 : Int64) h _ hv) C_Model_87 rfl (Nat.le_of_ble_eq_true rfl) ⟨Nat.le_of_ble_eq_true rfl, Nat.le_of_ble_eq_true rfl, Nat.zero_le _, Nat.zero_le _⟩ rfl d_Model_isOther_8) (fun H locs hI => ?_)
  refine lv_if_eq (tgt := 26) hx hb d_Model_isOther_11 (by decide) (fun hc11 => ?_) (fun hc11 => ?_)
  · replace hm := zif_t hc11 hm
    refine lv_iconst (v := (nI 0)) hx hb d_Model_isOther_26 (by decide) ?_
    obtain rfl := zs1 hm
    exact z_zret X hI (by decide) d_Model_isOther_27
  · replace hm := zif_f hc11 hm
    refine lv_iload_n hx hb d_Model_isOther_14 rfl (lv_at hl 0 rfl) ?_
    refine lv_bipush (v := (nI 97)) hx hb d_Model_isOther_15 (by decide) ?_
    refine lv_isub hx hb d_Model_isOther_17 ?_
    refine lv_iload_n hx hb d_Model_isOther_18 rfl (lv_at hl 1 rfl) ?_
    refine lv_icmp_eq (tgt := 26) hx hb d_Model_isOther_19 (by decide) (fun hc19 => ?_) (fun hc19 => ?_)
    · replace hm := zif_t hc19 hm
      refine lv_iconst (v := (nI 0)) hx hb d_Model_isOther_26 (by decide) ?_
      obtain rfl := zs1 hm
      exact z_zret X hI (by decide) d_Model_isOther_27
    · replace hm := zif_f hc19 hm
      refine lv_iconst (v := (nI 1)) hx hb d_Model_isOther_22 (by decide) ?_
      refine lv_goto (tgt := 27) hx hb d_Model_isOther_23 (by decide) ?_
      obtain rfl := zs1 hm
      exact z_zret X hI (by decide) d_Model_isOther_27
set_option maxHeartbeats 4000000 in
set_option maxRecDepth 100000 in
theorem c_Model_isOther (l : Launch) (G : zG) (K : Nat) (x0 : Int32) (x1 : Int32) (h : zH) (r : Int32) (hm : m_Model_isOther x0 x1 h = some r) : zMz l G K y_Model_isOther prog_9_method_6_code 2 1 [.int x0, .int x1] h r h := zMet (by decide +kernel) (Nat.le_of_ble_eq_true rfl) (fun p e s m below meth c ls X hI hl => r_Model_isOther_0 X x0 x1 h hm hI hl)
-- walk of AllHomeModel.faultOf
theorem d_Model_faultOf_0 : decode prog_9_method_7_code 0 = .ok (.iconst 0, 1) := by decide +kernel
theorem d_Model_faultOf_1 : decode prog_9_method_7_code 1 = .ok (.istore_n 2, 1) := by decide +kernel
theorem d_Model_faultOf_2 : decode prog_9_method_7_code 2 = .ok (.iload_n 2, 1) := by decide +kernel
theorem d_Model_faultOf_3 : decode prog_9_method_7_code 3 = .ok (.aload_n 0, 1) := by decide +kernel
theorem d_Model_faultOf_4 : decode prog_9_method_7_code 4 = .ok (.getfield 91, 3) := by decide +kernel
theorem d_Model_faultOf_7 : decode prog_9_method_7_code 7 = .ok (.if_icmp .ge 72, 3) := by decide +kernel
theorem d_Model_faultOf_10 : decode prog_9_method_7_code 10 = .ok (.aload_n 0, 1) := by decide +kernel
theorem d_Model_faultOf_11 : decode prog_9_method_7_code 11 = .ok (.getfield 9, 3) := by decide +kernel
theorem d_Model_faultOf_14 : decode prog_9_method_7_code 14 = .ok (.iload_n 2, 1) := by decide +kernel
theorem d_Model_faultOf_15 : decode prog_9_method_7_code 15 = .ok (.iaload, 1) := by decide +kernel
theorem d_Model_faultOf_16 : decode prog_9_method_7_code 16 = .ok (.istore_n 3, 1) := by decide +kernel
theorem d_Model_faultOf_17 : decode prog_9_method_7_code 17 = .ok (.iload_n 3, 1) := by decide +kernel
theorem d_Model_faultOf_18 : decode prog_9_method_7_code 18 = .ok (.i2l, 1) := by decide +kernel
theorem d_Model_faultOf_19 : decode prog_9_method_7_code 19 = .ok (.ldc2_w 98, 3) := by decide +kernel
theorem d_Model_faultOf_22 : decode prog_9_method_7_code 22 = .ok (.ldc2_w 100, 3) := by decide +kernel
theorem d_Model_faultOf_25 : decode prog_9_method_7_code 25 = .ok (.invokestatic 87, 3) := by decide +kernel
theorem d_Model_faultOf_28 : decode prog_9_method_7_code 28 = .ok (.ifCond .eq 29, 3) := by decide +kernel
theorem d_Model_faultOf_31 : decode prog_9_method_7_code 31 = .ok (.iinc 2 1, 3) := by decide +kernel
theorem d_Model_faultOf_34 : decode prog_9_method_7_code 34 = .ok (.iload_n 2, 1) := by decide +kernel
theorem d_Model_faultOf_35 : decode prog_9_method_7_code 35 = .ok (.aload_n 0, 1) := by decide +kernel
theorem d_Model_faultOf_36 : decode prog_9_method_7_code 36 = .ok (.getfield 91, 3) := by decide +kernel
theorem d_Model_faultOf_39 : decode prog_9_method_7_code 39 = .ok (.if_icmp .eq 16, 3) := by decide +kernel
theorem d_Model_faultOf_42 : decode prog_9_method_7_code 42 = .ok (.aload_n 0, 1) := by decide +kernel
theorem d_Model_faultOf_43 : decode prog_9_method_7_code 43 = .ok (.getfield 9, 3) := by decide +kernel
theorem d_Model_faultOf_46 : decode prog_9_method_7_code 46 = .ok (.iload_n 2, 1) := by decide +kernel
theorem d_Model_faultOf_47 : decode prog_9_method_7_code 47 = .ok (.iaload, 1) := by decide +kernel
theorem d_Model_faultOf_48 : decode prog_9_method_7_code 48 = .ok (.iload_n 1, 1) := by decide +kernel
theorem d_Model_faultOf_49 : decode prog_9_method_7_code 49 = .ok (.invokestatic 102, 3) := by decide +kernel
theorem d_Model_faultOf_52 : decode prog_9_method_7_code 52 = .ok (.ifCond .ne 21, 3) := by decide +kernel
theorem d_Model_faultOf_55 : decode prog_9_method_7_code 55 = .ok (.iload_n 2, 1) := by decide +kernel
theorem d_Model_faultOf_56 : decode prog_9_method_7_code 56 = .ok (.ireturn, 1) := by decide +kernel
theorem d_Model_faultOf_57 : decode prog_9_method_7_code 57 = .ok (.iload_n 3, 1) := by decide +kernel
theorem d_Model_faultOf_58 : decode prog_9_method_7_code 58 = .ok (.bipush 59, 2) := by decide +kernel
theorem d_Model_faultOf_60 : decode prog_9_method_7_code 60 = .ok (.if_icmp .eq 13, 3) := by decide +kernel
theorem d_Model_faultOf_63 : decode prog_9_method_7_code 63 = .ok (.iload_n 3, 1) := by decide +kernel
theorem d_Model_faultOf_64 : decode prog_9_method_7_code 64 = .ok (.iload_n 1, 1) := by decide +kernel
theorem d_Model_faultOf_65 : decode prog_9_method_7_code 65 = .ok (.invokestatic 102, 3) := by decide +kernel
theorem d_Model_faultOf_68 : decode prog_9_method_7_code 68 = .ok (.ifCond .ne 5, 3) := by decide +kernel
theorem d_Model_faultOf_71 : decode prog_9_method_7_code 71 = .ok (.iload_n 2, 1) := by decide +kernel
theorem d_Model_faultOf_72 : decode prog_9_method_7_code 72 = .ok (.ireturn, 1) := by decide +kernel
theorem d_Model_faultOf_73 : decode prog_9_method_7_code 73 = .ok (.iinc 2 1, 3) := by decide +kernel
theorem d_Model_faultOf_76 : decode prog_9_method_7_code 76 = .ok (.goto (-74), 3) := by decide +kernel
theorem d_Model_faultOf_79 : decode prog_9_method_7_code 79 = .ok (.iconst (-1), 1) := by decide +kernel
theorem d_Model_faultOf_80 : decode prog_9_method_7_code 80 = .ok (.ireturn, 1) := by decide +kernel
set_option maxHeartbeats 4000000 in
set_option maxRecDepth 100000 in
theorem r_Model_faultOf_2_b {p : Program} {l : Launch} {e : Env} {s : State} {m : MethodId} {args : Array Value} {below : List Frame} {meth : Method} {c : Code} {G : zG} {K : Nat} (X : zX p s m args meth c "AllHomeModel" prog_9_method_7_code 4 (some .int) G (zA G K)) {r : Int32} (a0 : Nat) (x1 : Int32) (h : zH) (k2 : (Int32) → Option Int32) (hk2 : ∀ (w : Int32), k2 w = some r → ∀ (H : Heap) (locs : List Loc) (ls : Array Slot), zI G K s (zA G K) H locs h → lv_has ls 4 [(0, .ref (G.1 a0)), (1, .int x1), (2, .int w)] → W p l e (zR 2) s m args below meth c H locs 0 0 (MQ below (zQi G K r h) args s 0 0 (zA G K)) (F0 m 2 ls [])) (u : Int32) (hm : g_Model_faultOf_2 a0 x1 h k2 u = some r) {H : Heap} {locs : List Loc} {ls : Array Slot} (hI : zI G K s (zA G K) H locs h) (hl : lv_has ls 4 [(0, .ref (G.1 a0)), (1, .int x1), (2, .int u)]) : W p l e (zR 2) s m args below meth c H locs 0 0 (MQ below (zQi G K r h) args s 0 0 (zA G K)) (F0 m 2 ls []) := by
  obtain ⟨hx, hb, hml, hown, hts, hr, hlocks, hK, hST, hNs⟩ := id X
  unfold g_Model_faultOf_2 at hm
  refine lv_iload_n hx hb d_Model_faultOf_2 rfl (lv_at hl 2 rfl) ?_
  refine lv_aload_n hx hb d_Model_faultOf_3 rfl (lv_at hl 0 rfl) ?_
  obtain ⟨v4, hv, hm⟩ := zbd hm
  refine z_getI X hI F_Model_91 hv d_Model_faultOf_4 ?_
  refine lv_icmp_ge (tgt := 79) hx hb d_Model_faultOf_7 (by decide) (fun hc7 => ?_) (fun hc7 => ?_)
  · replace hm := zif_t hc7 hm
    refine lv_iconst (v := (-1 : Int32)) hx hb d_Model_faultOf_79 (by decide) ?_
    obtain rfl := zs1 hm
    exact z_iret X hI d_Model_faultOf_80
  · replace hm := zif_f hc7 hm
    refine lv_aload_n hx hb d_Model_faultOf_10 rfl (lv_at hl 0 rfl) ?_
    obtain ⟨v11, hv, hm⟩ := zbd hm
    refine z_getR X hI F_Model_9 hv d_Model_faultOf_11 ?_
    refine lv_iload_n hx hb d_Model_faultOf_14 rfl (lv_at hl 2 rfl) ?_
    obtain ⟨v15, hv, hm⟩ := zbd hm
    refine z_iald X hI hv d_Model_faultOf_15 ?_
    refine lv_istore_n (lv' := [(3, .int v15), (0, .ref (G.1 a0)), (1, .int x1), (2, .int u)]) hx hb d_Model_faultOf_16 rfl hl (by decide) rfl (fun ls hl => ?_)
    refine lv_iload_n hx hb d_Model_faultOf_17 rfl (lv_at hl 0 rfl) ?_
    refine lv_i2l hx hb d_Model_faultOf_18 rfl ?_
    refine lv_ldc2 hx hb hown (hts _ kw789) d_Model_faultOf_19 ?_
    refine lv_ldc2 hx hb hown (hts _ kw790) d_Model_faultOf_22 ?_
    obtain ⟨v25, hv, hm⟩ := zbd hm
    refine z_ci hI (z_runS (As := [.long v15.toInt64, .long (50 : Int64), .long (57 : Int64)]) (rest := []) X hI hl.1 (c_Model_within l G K v15.toInt64 (50 : Int64) (57 : Int64) h _ hv) C_Model_87 rfl (Nat.le_of_ble_eq_true rfl) ⟨Nat.le_of_ble_eq_true rfl, Nat.le_of_ble_eq_true rfl, Nat.zero_le _, Nat.zero_le _⟩ rfl d_Model_faultOf_25) (fun H locs hI => ?_)
    refine lv_if_eq (tgt := 57) hx hb d_Model_faultOf_28 (by decide) (fun hc28 => ?_) (fun hc28 => ?_)
    · replace hm := zif_t hc28 hm
      refine lv_iload_n hx hb d_Model_faultOf_57 rfl (lv_at hl 0 rfl) ?_
      refine lv_bipush (v := (nI 59)) hx hb d_Model_faultOf_58 (by decide) ?_
      refine lv_icmp_eq (tgt := 73) hx hb d_Model_faultOf_60 (by decide) (fun hc60 => ?_) (fun hc60 => ?_)
      · replace hm := zif_t hc60 hm
        refine lv_iinc (v := (u + (nI 1))) (lv' := [(2, .int (u + (nI 1))), (3, .int v15), (0, .ref (G.1 a0)), (1, .int x1)]) hx hb d_Model_faultOf_73 hl (k := 3) rfl (congrArg (fun z => u + z) (show Int32.ofInt (1) = (nI 1) by decide)) (by decide) rfl (fun ls hl => ?_)
        refine lv_goto (tgt := 2) hx hb d_Model_faultOf_76 (by decide) ?_
        obtain ⟨g0, e0⟩ : ∃ z, z = (u + (nI 1)) := ⟨_, rfl⟩
        rw [← e0] at hm hl
        exact hk2 g0 hm _ _ _ hI (lv_sub hl [2, 3, 0] rfl)
      · replace hm := zif_f hc60 hm
        refine lv_iload_n hx hb d_Model_faultOf_63 rfl (lv_at hl 0 rfl) ?_
        refine lv_iload_n hx hb d_Model_faultOf_64 rfl (lv_at hl 2 rfl) ?_
        obtain ⟨v65, hv, hm⟩ := zbd hm
        refine z_ci hI (z_runS (As := [.int v15, .int x1]) (rest := []) X hI hl.1 (c_Model_isOther l G K v15 x1 h _ hv) C_Model_102 rfl (Nat.le_of_ble_eq_true rfl) ⟨Nat.le_of_ble_eq_true rfl, Nat.le_of_ble_eq_true rfl, Nat.zero_le _, Nat.zero_le _⟩ rfl d_Model_faultOf_65) (fun H locs hI => ?_)
        refine lv_if_ne (tgt := 73) hx hb d_Model_faultOf_68 (by decide) (fun hc68 => ?_) (fun hc68 => ?_)
        · replace hm := zif_f hc68 hm
          refine lv_iinc (v := (u + (nI 1))) (lv' := [(2, .int (u + (nI 1))), (3, .int v15), (0, .ref (G.1 a0)), (1, .int x1)]) hx hb d_Model_faultOf_73 hl (k := 3) rfl (congrArg (fun z => u + z) (show Int32.ofInt (1) = (nI 1) by decide)) (by decide) rfl (fun ls hl => ?_)
          refine lv_goto (tgt := 2) hx hb d_Model_faultOf_76 (by decide) ?_
          obtain ⟨g0, e0⟩ : ∃ z, z = (u + (nI 1)) := ⟨_, rfl⟩
          rw [← e0] at hm hl
          exact hk2 g0 hm _ _ _ hI (lv_sub hl [2, 3, 0] rfl)
        · replace hm := zif_t hc68 hm
          refine lv_iload_n hx hb d_Model_faultOf_71 rfl (lv_at hl 3 rfl) ?_
          obtain rfl := zs1 hm
          exact z_iret X hI d_Model_faultOf_72
    · replace hm := zif_f hc28 hm
      refine lv_iinc (v := (u + (nI 1))) (lv' := [(2, .int (u + (nI 1))), (3, .int v15), (0, .ref (G.1 a0)), (1, .int x1)]) hx hb d_Model_faultOf_31 hl (k := 3) rfl (congrArg (fun z => u + z) (show Int32.ofInt (1) = (nI 1) by decide)) (by decide) rfl (fun ls hl => ?_)
      refine lv_iload_n hx hb d_Model_faultOf_34 rfl (lv_at hl 0 rfl) ?_
      refine lv_aload_n hx hb d_Model_faultOf_35 rfl (lv_at hl 2 rfl) ?_
      obtain ⟨v36, hv, hm⟩ := zbd hm
      refine z_getI X hI F_Model_91 hv d_Model_faultOf_36 ?_
      refine lv_icmp_eq (tgt := 55) hx hb d_Model_faultOf_39 (by decide) (fun hc39 => ?_) (fun hc39 => ?_)
      · replace hm := zif_t hc39 hm
        refine lv_iload_n hx hb d_Model_faultOf_55 rfl (lv_at hl 0 rfl) ?_
        obtain rfl := zs1 hm
        exact z_iret X hI d_Model_faultOf_56
      · replace hm := zif_f hc39 hm
        refine lv_aload_n hx hb d_Model_faultOf_42 rfl (lv_at hl 2 rfl) ?_
        obtain ⟨v43, hv, hm⟩ := zbd hm
        refine z_getR X hI F_Model_9 hv d_Model_faultOf_43 ?_
        refine lv_iload_n hx hb d_Model_faultOf_46 rfl (lv_at hl 0 rfl) ?_
        obtain ⟨v47, hv, hm⟩ := zbd hm
        refine z_iald X hI hv d_Model_faultOf_47 ?_
        refine lv_iload_n hx hb d_Model_faultOf_48 rfl (lv_at hl 3 rfl) ?_
        obtain ⟨v49, hv, hm⟩ := zbd hm
        refine z_ci hI (z_runS (As := [.int v47, .int x1]) (rest := []) X hI hl.1 (c_Model_isOther l G K v47 x1 h _ hv) C_Model_102 rfl (Nat.le_of_ble_eq_true rfl) ⟨Nat.le_of_ble_eq_true rfl, Nat.le_of_ble_eq_true rfl, Nat.zero_le _, Nat.zero_le _⟩ rfl d_Model_faultOf_49) (fun H locs hI => ?_)
        refine lv_if_ne (tgt := 73) hx hb d_Model_faultOf_52 (by decide) (fun hc52 => ?_) (fun hc52 => ?_)
        · replace hm := zif_f hc52 hm
          refine lv_iinc (v := ((u + (nI 1)) + (nI 1))) (lv' := [(2, .int ((u + (nI 1)) + (nI 1))), (3, .int v15), (0, .ref (G.1 a0)), (1, .int x1)]) hx hb d_Model_faultOf_73 hl (k := 0) rfl (congrArg (fun z => (u + (nI 1)) + z) (show Int32.ofInt (1) = (nI 1) by decide)) (by decide) rfl (fun ls hl => ?_)
          refine lv_goto (tgt := 2) hx hb d_Model_faultOf_76 (by decide) ?_
          obtain ⟨g0, e0⟩ : ∃ z, z = ((u + (nI 1)) + (nI 1)) := ⟨_, rfl⟩
          rw [← e0] at hm hl
          exact hk2 g0 hm _ _ _ hI (lv_sub hl [2, 3, 0] rfl)
        · replace hm := zif_t hc52 hm
          refine lv_iload_n hx hb d_Model_faultOf_55 rfl (lv_at hl 0 rfl) ?_
          obtain rfl := zs1 hm
          exact z_iret X hI d_Model_faultOf_56
theorem r_Model_faultOf_2 {p : Program} {l : Launch} {e : Env} {s : State} {m : MethodId} {args : Array Value} {below : List Frame} {meth : Method} {c : Code} {G : zG} {K : Nat} (X : zX p s m args meth c "AllHomeModel" prog_9_method_7_code 4 (some .int) G (zA G K)) {r : Int32} (a0 : Nat) (x1 : Int32) (h : zH) : ∀ (n : Nat) (w : Int32), zloop (g_Model_faultOf_2 a0 x1 h) n w = some r → ∀ (H : Heap) (locs : List Loc) (ls : Array Slot), zI G K s (zA G K) H locs h → lv_has ls 4 [(0, .ref (G.1 a0)), (1, .int x1), (2, .int w)] → W p l e (zR 2) s m args below meth c H locs 0 0 (MQ below (zQi G K r h) args s 0 0 (zA G K)) (F0 m 2 ls []) := by
  intro n
  induction n with
  | zero => intro w hm; cases hm
  | succ n ih => intro w hm H locs ls hI hl; exact r_Model_faultOf_2_b X a0 x1 h (zloop (g_Model_faultOf_2 a0 x1 h) n) ih w (zls hm) hI hl
set_option maxHeartbeats 4000000 in
set_option maxRecDepth 100000 in
theorem r_Model_faultOf_0 {p : Program} {l : Launch} {e : Env} {s : State} {m : MethodId} {args : Array Value} {below : List Frame} {meth : Method} {c : Code} {G : zG} {K : Nat} (X : zX p s m args meth c "AllHomeModel" prog_9_method_7_code 4 (some .int) G (zA G K)) {r : Int32} (a0 : Nat) (x1 : Int32) (h : zH) (hm : m_Model_faultOf a0 x1 h = some r) {H : Heap} {locs : List Loc} {ls : Array Slot} (hI : zI G K s (zA G K) H locs h) (hl : lv_has ls 4 [(0, .ref (G.1 a0)), (1, .int x1)]) : W p l e (zR 2) s m args below meth c H locs 0 0 (MQ below (zQi G K r h) args s 0 0 (zA G K)) (F0 m 0 ls []) := by
  obtain ⟨hx, hb, hml, hown, hts, hr, hlocks, hK, hST, hNs⟩ := id X
  unfold m_Model_faultOf at hm
  refine lv_iconst (v := (nI 0)) hx hb d_Model_faultOf_0 (by decide) ?_
  refine lv_istore_n (lv' := [(2, .int (nI 0)), (0, .ref (G.1 a0)), (1, .int x1)]) hx hb d_Model_faultOf_1 rfl hl (by decide) rfl (fun ls hl => ?_)
  exact r_Model_faultOf_2 X a0 x1 h zN (nI 0) hm _ _ _ hI (lv_sub hl [1, 2, 0] rfl)
set_option maxHeartbeats 4000000 in
set_option maxRecDepth 100000 in
theorem c_Model_faultOf (l : Launch) (G : zG) (K : Nat) (a0 : Nat) (x1 : Int32) (h : zH) (r : Int32) (hm : m_Model_faultOf a0 x1 h = some r) : zMi l G K y_Model_faultOf prog_9_method_7_code 4 2 [.ref (G.1 a0), .int x1] h r h := zMet (by decide +kernel) (Nat.le_of_ble_eq_true rfl) (fun p e s m below meth c ls X hI hl => r_Model_faultOf_0 X a0 x1 h hm hI hl)
-- walk of AllHomeModel.hut
theorem d_Model_hut_0 : decode prog_9_method_8_code 0 = .ok (.aload_n 0, 1) := by decide +kernel
theorem d_Model_hut_1 : decode prog_9_method_8_code 1 = .ok (.getfield 106, 3) := by decide +kernel
theorem d_Model_hut_4 : decode prog_9_method_8_code 4 = .ok (.ifCond .le 6, 3) := by decide +kernel
theorem d_Model_hut_7 : decode prog_9_method_8_code 7 = .ok (.bipush (-5), 2) := by decide +kernel
theorem d_Model_hut_9 : decode prog_9_method_8_code 9 = .ok (.ireturn, 1) := by decide +kernel
theorem d_Model_hut_10 : decode prog_9_method_8_code 10 = .ok (.aload_n 0, 1) := by decide +kernel
theorem d_Model_hut_11 : decode prog_9_method_8_code 11 = .ok (.getfield 78, 3) := by decide +kernel
theorem d_Model_hut_14 : decode prog_9_method_8_code 14 = .ok (.bipush 6, 2) := by decide +kernel
theorem d_Model_hut_16 : decode prog_9_method_8_code 16 = .ok (.if_icmp .ne 6, 3) := by decide +kernel
theorem d_Model_hut_19 : decode prog_9_method_8_code 19 = .ok (.bipush (-3), 2) := by decide +kernel
theorem d_Model_hut_21 : decode prog_9_method_8_code 21 = .ok (.ireturn, 1) := by decide +kernel
theorem d_Model_hut_22 : decode prog_9_method_8_code 22 = .ok (.aload_n 0, 1) := by decide +kernel
theorem d_Model_hut_23 : decode prog_9_method_8_code 23 = .ok (.aload_n 0, 1) := by decide +kernel
theorem d_Model_hut_24 : decode prog_9_method_8_code 24 = .ok (.getfield 78, 3) := by decide +kernel
theorem d_Model_hut_27 : decode prog_9_method_8_code 27 = .ok (.invokevirtual 109, 3) := by decide +kernel
theorem d_Model_hut_30 : decode prog_9_method_8_code 30 = .ok (.istore_n 1, 1) := by decide +kernel
theorem d_Model_hut_31 : decode prog_9_method_8_code 31 = .ok (.aload_n 0, 1) := by decide +kernel
theorem d_Model_hut_32 : decode prog_9_method_8_code 32 = .ok (.getfield 91, 3) := by decide +kernel
theorem d_Model_hut_35 : decode prog_9_method_8_code 35 = .ok (.istore_n 2, 1) := by decide +kernel
theorem d_Model_hut_36 : decode prog_9_method_8_code 36 = .ok (.aload_n 0, 1) := by decide +kernel
theorem d_Model_hut_37 : decode prog_9_method_8_code 37 = .ok (.iconst 0, 1) := by decide +kernel
theorem d_Model_hut_38 : decode prog_9_method_8_code 38 = .ok (.putfield 91, 3) := by decide +kernel
theorem d_Model_hut_41 : decode prog_9_method_8_code 41 = .ok (.iload_n 1, 1) := by decide +kernel
theorem d_Model_hut_42 : decode prog_9_method_8_code 42 = .ok (.ifCond .lt 8, 3) := by decide +kernel
theorem d_Model_hut_45 : decode prog_9_method_8_code 45 = .ok (.bipush (-100), 2) := by decide +kernel
theorem d_Model_hut_47 : decode prog_9_method_8_code 47 = .ok (.iload_n 1, 1) := by decide +kernel
theorem d_Model_hut_48 : decode prog_9_method_8_code 48 = .ok (.isub, 1) := by decide +kernel
theorem d_Model_hut_49 : decode prog_9_method_8_code 49 = .ok (.ireturn, 1) := by decide +kernel
theorem d_Model_hut_50 : decode prog_9_method_8_code 50 = .ok (.iconst 0, 1) := by decide +kernel
theorem d_Model_hut_51 : decode prog_9_method_8_code 51 = .ok (.istore_n 3, 1) := by decide +kernel
theorem d_Model_hut_52 : decode prog_9_method_8_code 52 = .ok (.iload_n 3, 1) := by decide +kernel
theorem d_Model_hut_53 : decode prog_9_method_8_code 53 = .ok (.iload_n 2, 1) := by decide +kernel
theorem d_Model_hut_54 : decode prog_9_method_8_code 54 = .ok (.if_icmp .ge 29, 3) := by decide +kernel
theorem d_Model_hut_57 : decode prog_9_method_8_code 57 = .ok (.aload_n 0, 1) := by decide +kernel
theorem d_Model_hut_58 : decode prog_9_method_8_code 58 = .ok (.getfield 13, 3) := by decide +kernel
theorem d_Model_hut_61 : decode prog_9_method_8_code 61 = .ok (.bipush 60, 2) := by decide +kernel
theorem d_Model_hut_63 : decode prog_9_method_8_code 63 = .ok (.aload_n 0, 1) := by decide +kernel
theorem d_Model_hut_64 : decode prog_9_method_8_code 64 = .ok (.getfield 78, 3) := by decide +kernel
theorem d_Model_hut_67 : decode prog_9_method_8_code 67 = .ok (.imul, 1) := by decide +kernel
theorem d_Model_hut_68 : decode prog_9_method_8_code 68 = .ok (.iload_n 3, 1) := by decide +kernel
theorem d_Model_hut_69 : decode prog_9_method_8_code 69 = .ok (.iadd, 1) := by decide +kernel
theorem d_Model_hut_70 : decode prog_9_method_8_code 70 = .ok (.aload_n 0, 1) := by decide +kernel
theorem d_Model_hut_71 : decode prog_9_method_8_code 71 = .ok (.getfield 9, 3) := by decide +kernel
theorem d_Model_hut_74 : decode prog_9_method_8_code 74 = .ok (.iload_n 3, 1) := by decide +kernel
theorem d_Model_hut_75 : decode prog_9_method_8_code 75 = .ok (.iaload, 1) := by decide +kernel
theorem d_Model_hut_76 : decode prog_9_method_8_code 76 = .ok (.iastore, 1) := by decide +kernel
theorem d_Model_hut_77 : decode prog_9_method_8_code 77 = .ok (.iinc 3 1, 3) := by decide +kernel
theorem d_Model_hut_80 : decode prog_9_method_8_code 80 = .ok (.goto (-28), 3) := by decide +kernel
theorem d_Model_hut_83 : decode prog_9_method_8_code 83 = .ok (.aload_n 0, 1) := by decide +kernel
theorem d_Model_hut_84 : decode prog_9_method_8_code 84 = .ok (.getfield 16, 3) := by decide +kernel
theorem d_Model_hut_87 : decode prog_9_method_8_code 87 = .ok (.aload_n 0, 1) := by decide +kernel
theorem d_Model_hut_88 : decode prog_9_method_8_code 88 = .ok (.getfield 78, 3) := by decide +kernel
theorem d_Model_hut_91 : decode prog_9_method_8_code 91 = .ok (.iload_n 2, 1) := by decide +kernel
theorem d_Model_hut_92 : decode prog_9_method_8_code 92 = .ok (.iastore, 1) := by decide +kernel
theorem d_Model_hut_93 : decode prog_9_method_8_code 93 = .ok (.aload_n 0, 1) := by decide +kernel
theorem d_Model_hut_94 : decode prog_9_method_8_code 94 = .ok (.dup, 1) := by decide +kernel
theorem d_Model_hut_95 : decode prog_9_method_8_code 95 = .ok (.getfield 78, 3) := by decide +kernel
theorem d_Model_hut_98 : decode prog_9_method_8_code 98 = .ok (.iconst 1, 1) := by decide +kernel
theorem d_Model_hut_99 : decode prog_9_method_8_code 99 = .ok (.iadd, 1) := by decide +kernel
theorem d_Model_hut_100 : decode prog_9_method_8_code 100 = .ok (.putfield 78, 3) := by decide +kernel
theorem d_Model_hut_103 : decode prog_9_method_8_code 103 = .ok (.aload_n 0, 1) := by decide +kernel
theorem d_Model_hut_104 : decode prog_9_method_8_code 104 = .ok (.getfield 78, 3) := by decide +kernel
theorem d_Model_hut_107 : decode prog_9_method_8_code 107 = .ok (.iconst 1, 1) := by decide +kernel
theorem d_Model_hut_108 : decode prog_9_method_8_code 108 = .ok (.isub, 1) := by decide +kernel
theorem d_Model_hut_109 : decode prog_9_method_8_code 109 = .ok (.ireturn, 1) := by decide +kernel
set_option maxHeartbeats 4000000 in
set_option maxRecDepth 100000 in
theorem r_Model_hut_52_b {p : Program} {l : Launch} {e : Env} {s : State} {m : MethodId} {args : Array Value} {below : List Frame} {meth : Method} {c : Code} {G : zG} {K : Nat} (X : zX p s m args meth c "AllHomeModel" prog_9_method_8_code 4 (some .int) G (zA G K)) {r : Int32} {h' : zH} (a0 : Nat) (x2 : Int32) (k52 : (Int32 × zH) → Option (Int32 × zH)) (hk52 : ∀ (w : Int32 × zH), k52 w = some (r, h') → ∀ (H : Heap) (locs : List Loc) (ls : Array Slot), zI G K s (zA G K) H locs w.2 → lv_has ls 4 [(0, .ref (G.1 a0)), (2, .int x2), (3, .int w.1)] → W p l e (zR 3) s m args below meth c H locs 0 0 (MQ below (zQi G K r h') args s 0 0 (zA G K)) (F0 m 52 ls [])) (u : Int32 × zH) (hm : g_Model_hut_52 a0 x2 k52 u = some (r, h')) {H : Heap} {locs : List Loc} {ls : Array Slot} (hI : zI G K s (zA G K) H locs u.2) (hl : lv_has ls 4 [(0, .ref (G.1 a0)), (2, .int x2), (3, .int u.1)]) : W p l e (zR 3) s m args below meth c H locs 0 0 (MQ below (zQi G K r h') args s 0 0 (zA G K)) (F0 m 52 ls []) := by
  obtain ⟨hx, hb, hml, hown, hts, hr, hlocks, hK, hST, hNs⟩ := id X
  unfold g_Model_hut_52 at hm
  refine lv_iload_n hx hb d_Model_hut_52 rfl (lv_at hl 2 rfl) ?_
  refine lv_iload_n hx hb d_Model_hut_53 rfl (lv_at hl 1 rfl) ?_
  refine lv_icmp_ge (tgt := 83) hx hb d_Model_hut_54 (by decide) (fun hc54 => ?_) (fun hc54 => ?_)
  · replace hm := zif_t hc54 hm
    refine lv_aload_n hx hb d_Model_hut_83 rfl (lv_at hl 0 rfl) ?_
    obtain ⟨v84, hv, hm⟩ := zbd hm
    refine z_getR X hI F_Model_16 hv d_Model_hut_84 ?_
    refine lv_aload_n hx hb d_Model_hut_87 rfl (lv_at hl 0 rfl) ?_
    obtain ⟨v88, hv, hm⟩ := zbd hm
    refine z_getI X hI F_Model_78 hv d_Model_hut_88 ?_
    refine lv_iload_n hx hb d_Model_hut_91 rfl (lv_at hl 1 rfl) ?_
    obtain ⟨h92, hv, hm⟩ := zbd hm
    refine z_iast X hI hv d_Model_hut_92 (fun H locs hI => ?_)
    refine lv_aload_n hx hb d_Model_hut_93 rfl (lv_at hl 0 rfl) ?_
    refine lv_dup hx hb d_Model_hut_94 rfl ?_
    obtain ⟨v95, hv, hm⟩ := zbd hm
    refine z_getI X hI F_Model_78 hv d_Model_hut_95 ?_
    refine lv_iconst (v := (nI 1)) hx hb d_Model_hut_98 (by decide) ?_
    refine lv_iadd hx hb d_Model_hut_99 ?_
    obtain ⟨h100, hv, hm⟩ := zbd hm
    refine z_putI X hI P_Model_78 hv d_Model_hut_100 (fun H locs hI => ?_)
    refine lv_aload_n hx hb d_Model_hut_103 rfl (lv_at hl 0 rfl) ?_
    obtain ⟨v104, hv, hm⟩ := zbd hm
    refine z_getI X hI F_Model_78 hv d_Model_hut_104 ?_
    refine lv_iconst (v := (nI 1)) hx hb d_Model_hut_107 (by decide) ?_
    refine lv_isub hx hb d_Model_hut_108 ?_
    obtain ⟨rfl, rfl⟩ := zs2 hm
    exact z_iret X hI d_Model_hut_109
  · replace hm := zif_f hc54 hm
    refine lv_aload_n hx hb d_Model_hut_57 rfl (lv_at hl 0 rfl) ?_
    obtain ⟨v58, hv, hm⟩ := zbd hm
    refine z_getR X hI F_Model_13 hv d_Model_hut_58 ?_
    refine lv_bipush (v := (nI 60)) hx hb d_Model_hut_61 (by decide) ?_
    refine lv_aload_n hx hb d_Model_hut_63 rfl (lv_at hl 0 rfl) ?_
    obtain ⟨v64, hv, hm⟩ := zbd hm
    refine z_getI X hI F_Model_78 hv d_Model_hut_64 ?_
    refine lv_imul hx hb d_Model_hut_67 ?_
    refine lv_iload_n hx hb d_Model_hut_68 rfl (lv_at hl 2 rfl) ?_
    refine lv_iadd hx hb d_Model_hut_69 ?_
    refine lv_aload_n hx hb d_Model_hut_70 rfl (lv_at hl 0 rfl) ?_
    obtain ⟨v71, hv, hm⟩ := zbd hm
    refine z_getR X hI F_Model_9 hv d_Model_hut_71 ?_
    refine lv_iload_n hx hb d_Model_hut_74 rfl (lv_at hl 2 rfl) ?_
    obtain ⟨v75, hv, hm⟩ := zbd hm
    refine z_iald X hI hv d_Model_hut_75 ?_
    obtain ⟨h76, hv, hm⟩ := zbd hm
    refine z_iast X hI hv d_Model_hut_76 (fun H locs hI => ?_)
    refine lv_iinc (v := (u.1 + (nI 1))) (lv' := [(3, .int (u.1 + (nI 1))), (0, .ref (G.1 a0)), (2, .int x2)]) hx hb d_Model_hut_77 hl (k := 2) rfl (congrArg (fun z => u.1 + z) (show Int32.ofInt (1) = (nI 1) by decide)) (by decide) rfl (fun ls hl => ?_)
    refine lv_goto (tgt := 52) hx hb d_Model_hut_80 (by decide) ?_
    obtain ⟨g0, e0⟩ : ∃ z, z = (u.1 + (nI 1)) := ⟨_, rfl⟩
    rw [← e0] at hm hl
    exact hk52 (g0, h76) hm _ _ _ hI (lv_sub hl [1, 2, 0] rfl)
theorem r_Model_hut_52 {p : Program} {l : Launch} {e : Env} {s : State} {m : MethodId} {args : Array Value} {below : List Frame} {meth : Method} {c : Code} {G : zG} {K : Nat} (X : zX p s m args meth c "AllHomeModel" prog_9_method_8_code 4 (some .int) G (zA G K)) {r : Int32} {h' : zH} (a0 : Nat) (x2 : Int32) : ∀ (n : Nat) (w : Int32 × zH), zloop (g_Model_hut_52 a0 x2) n w = some (r, h') → ∀ (H : Heap) (locs : List Loc) (ls : Array Slot), zI G K s (zA G K) H locs w.2 → lv_has ls 4 [(0, .ref (G.1 a0)), (2, .int x2), (3, .int w.1)] → W p l e (zR 3) s m args below meth c H locs 0 0 (MQ below (zQi G K r h') args s 0 0 (zA G K)) (F0 m 52 ls []) := by
  intro n
  induction n with
  | zero => intro w hm; cases hm
  | succ n ih => intro w hm H locs ls hI hl; exact r_Model_hut_52_b X a0 x2 (zloop (g_Model_hut_52 a0 x2) n) ih w (zls hm) hI hl
set_option maxHeartbeats 4000000 in
set_option maxRecDepth 100000 in
theorem r_Model_hut_0 {p : Program} {l : Launch} {e : Env} {s : State} {m : MethodId} {args : Array Value} {below : List Frame} {meth : Method} {c : Code} {G : zG} {K : Nat} (X : zX p s m args meth c "AllHomeModel" prog_9_method_8_code 4 (some .int) G (zA G K)) {r : Int32} {h' : zH} (a0 : Nat) (h : zH) (hm : m_Model_hut a0 h = some (r, h')) {H : Heap} {locs : List Loc} {ls : Array Slot} (hI : zI G K s (zA G K) H locs h) (hl : lv_has ls 4 [(0, .ref (G.1 a0))]) : W p l e (zR 3) s m args below meth c H locs 0 0 (MQ below (zQi G K r h') args s 0 0 (zA G K)) (F0 m 0 ls []) := by
  obtain ⟨hx, hb, hml, hown, hts, hr, hlocks, hK, hST, hNs⟩ := id X
  unfold m_Model_hut at hm
  refine lv_aload_n hx hb d_Model_hut_0 rfl (lv_at hl 0 rfl) ?_
  obtain ⟨v1, hv, hm⟩ := zbd hm
  refine z_getI X hI F_Model_106 hv d_Model_hut_1 ?_
  refine lv_if_le (tgt := 10) hx hb d_Model_hut_4 (by decide) (fun hc4 => ?_) (fun hc4 => ?_)
  · replace hm := zif_t hc4 hm
    refine lv_aload_n hx hb d_Model_hut_10 rfl (lv_at hl 0 rfl) ?_
    obtain ⟨v11, hv, hm⟩ := zbd hm
    refine z_getI X hI F_Model_78 hv d_Model_hut_11 ?_
    refine lv_bipush (v := (nI 6)) hx hb d_Model_hut_14 (by decide) ?_
    refine lv_icmp_ne (tgt := 22) hx hb d_Model_hut_16 (by decide) (fun hc16 => ?_) (fun hc16 => ?_)
    · replace hm := zif_f hc16 hm
      refine lv_aload_n hx hb d_Model_hut_22 rfl (lv_at hl 0 rfl) ?_
      refine lv_aload_n hx hb d_Model_hut_23 rfl (lv_at hl 0 rfl) ?_
      obtain ⟨v24, hv, hm⟩ := zbd hm
      refine z_getI X hI F_Model_78 hv d_Model_hut_24 ?_
      obtain ⟨v27, hv, hm⟩ := zbd hm
      obtain ⟨hq, hv⟩ := zcv_at hv
      refine z_ci hI (z_runV (As := [.int v24]) (rest := []) X hI hl.1 (c_Model_faultOf l G K a0 v24 h _ hv) C_Model_109 rfl hq (Nat.le_of_ble_eq_true rfl) ⟨Nat.le_of_ble_eq_true rfl, Nat.le_of_ble_eq_true rfl, Nat.zero_le _, Nat.zero_le _⟩ rfl d_Model_hut_27) (fun H locs hI => ?_)
      refine lv_istore_n (lv' := [(1, .int v27), (0, .ref (G.1 a0))]) hx hb d_Model_hut_30 rfl hl (by decide) rfl (fun ls hl => ?_)
      refine lv_aload_n hx hb d_Model_hut_31 rfl (lv_at hl 1 rfl) ?_
      obtain ⟨v32, hv, hm⟩ := zbd hm
      refine z_getI X hI F_Model_91 hv d_Model_hut_32 ?_
      refine lv_istore_n (lv' := [(2, .int v32), (1, .int v27), (0, .ref (G.1 a0))]) hx hb d_Model_hut_35 rfl hl (by decide) rfl (fun ls hl => ?_)
      refine lv_aload_n hx hb d_Model_hut_36 rfl (lv_at hl 2 rfl) ?_
      refine lv_iconst (v := (nI 0)) hx hb d_Model_hut_37 (by decide) ?_
      obtain ⟨h38, hv, hm⟩ := zbd hm
      refine z_putI X hI P_Model_91 hv d_Model_hut_38 (fun H locs hI => ?_)
      refine lv_iload_n hx hb d_Model_hut_41 rfl (lv_at hl 1 rfl) ?_
      refine lv_if_lt (tgt := 50) hx hb d_Model_hut_42 (by decide) (fun hc42 => ?_) (fun hc42 => ?_)
      · replace hm := zif_t hc42 hm
        refine lv_iconst (v := (nI 0)) hx hb d_Model_hut_50 (by decide) ?_
        refine lv_istore_n (lv' := [(3, .int (nI 0)), (2, .int v32), (1, .int v27), (0, .ref (G.1 a0))]) hx hb d_Model_hut_51 rfl hl (by decide) rfl (fun ls hl => ?_)
        exact r_Model_hut_52 X a0 v32 zN ((nI 0), h38) hm _ _ _ hI (lv_sub hl [3, 1, 0] rfl)
      · replace hm := zif_f hc42 hm
        refine lv_bipush (v := (-100 : Int32)) hx hb d_Model_hut_45 (by decide) ?_
        refine lv_iload_n hx hb d_Model_hut_47 rfl (lv_at hl 1 rfl) ?_
        refine lv_isub hx hb d_Model_hut_48 ?_
        obtain ⟨rfl, rfl⟩ := zs2 hm
        exact z_iret X hI d_Model_hut_49
    · replace hm := zif_t hc16 hm
      refine lv_bipush (v := (-3 : Int32)) hx hb d_Model_hut_19 (by decide) ?_
      obtain ⟨rfl, rfl⟩ := zs2 hm
      exact z_iret X hI d_Model_hut_21
  · replace hm := zif_f hc4 hm
    refine lv_bipush (v := (-5 : Int32)) hx hb d_Model_hut_7 (by decide) ?_
    obtain ⟨rfl, rfl⟩ := zs2 hm
    exact z_iret X hI d_Model_hut_9
set_option maxHeartbeats 4000000 in
set_option maxRecDepth 100000 in
theorem c_Model_hut (l : Launch) (G : zG) (K : Nat) (a0 : Nat) (h : zH) (r : Int32) (h' : zH) (hm : m_Model_hut a0 h = some (r, h')) : zMi l G K y_Model_hut prog_9_method_8_code 4 3 [.ref (G.1 a0)] h r h' := zMet (by decide +kernel) (Nat.le_of_ble_eq_true rfl) (fun p e s m below meth c ls X hI hl => r_Model_hut_0 X a0 h hm hI hl)
-- walk of AllHomeModel.lines
theorem d_Model_lines_0 : decode prog_9_method_9_code 0 = .ok (.iconst 1, 1) := by decide +kernel
theorem d_Model_lines_1 : decode prog_9_method_9_code 1 = .ok (.istore_n 2, 1) := by decide +kernel
theorem d_Model_lines_2 : decode prog_9_method_9_code 2 = .ok (.iconst 0, 1) := by decide +kernel
theorem d_Model_lines_3 : decode prog_9_method_9_code 3 = .ok (.istore_n 3, 1) := by decide +kernel
theorem d_Model_lines_4 : decode prog_9_method_9_code 4 = .ok (.iload_n 3, 1) := by decide +kernel
theorem d_Model_lines_5 : decode prog_9_method_9_code 5 = .ok (.aload_n 0, 1) := by decide +kernel
theorem d_Model_lines_6 : decode prog_9_method_9_code 6 = .ok (.getfield 16, 3) := by decide +kernel
theorem d_Model_lines_9 : decode prog_9_method_9_code 9 = .ok (.iload_n 1, 1) := by decide +kernel
theorem d_Model_lines_10 : decode prog_9_method_9_code 10 = .ok (.iaload, 1) := by decide +kernel
theorem d_Model_lines_11 : decode prog_9_method_9_code 11 = .ok (.if_icmp .ge 33, 3) := by decide +kernel
theorem d_Model_lines_14 : decode prog_9_method_9_code 14 = .ok (.iload_n 2, 1) := by decide +kernel
theorem d_Model_lines_15 : decode prog_9_method_9_code 15 = .ok (.aload_n 0, 1) := by decide +kernel
theorem d_Model_lines_16 : decode prog_9_method_9_code 16 = .ok (.getfield 13, 3) := by decide +kernel
theorem d_Model_lines_19 : decode prog_9_method_9_code 19 = .ok (.bipush 60, 2) := by decide +kernel
theorem d_Model_lines_21 : decode prog_9_method_9_code 21 = .ok (.iload_n 1, 1) := by decide +kernel
theorem d_Model_lines_22 : decode prog_9_method_9_code 22 = .ok (.imul, 1) := by decide +kernel
theorem d_Model_lines_23 : decode prog_9_method_9_code 23 = .ok (.iload_n 3, 1) := by decide +kernel
theorem d_Model_lines_24 : decode prog_9_method_9_code 24 = .ok (.iadd, 1) := by decide +kernel
theorem d_Model_lines_25 : decode prog_9_method_9_code 25 = .ok (.iaload, 1) := by decide +kernel
theorem d_Model_lines_26 : decode prog_9_method_9_code 26 = .ok (.bipush 59, 2) := by decide +kernel
theorem d_Model_lines_28 : decode prog_9_method_9_code 28 = .ok (.if_icmp .ne 7, 3) := by decide +kernel
theorem d_Model_lines_31 : decode prog_9_method_9_code 31 = .ok (.iconst 1, 1) := by decide +kernel
theorem d_Model_lines_32 : decode prog_9_method_9_code 32 = .ok (.goto 4, 3) := by decide +kernel
theorem d_Model_lines_35 : decode prog_9_method_9_code 35 = .ok (.iconst 0, 1) := by decide +kernel
theorem d_Model_lines_36 : decode prog_9_method_9_code 36 = .ok (.iadd, 1) := by decide +kernel
theorem d_Model_lines_37 : decode prog_9_method_9_code 37 = .ok (.istore_n 2, 1) := by decide +kernel
theorem d_Model_lines_38 : decode prog_9_method_9_code 38 = .ok (.iinc 3 1, 3) := by decide +kernel
theorem d_Model_lines_41 : decode prog_9_method_9_code 41 = .ok (.goto (-37), 3) := by decide +kernel
theorem d_Model_lines_44 : decode prog_9_method_9_code 44 = .ok (.iload_n 2, 1) := by decide +kernel
theorem d_Model_lines_45 : decode prog_9_method_9_code 45 = .ok (.ireturn, 1) := by decide +kernel
set_option maxHeartbeats 4000000 in
set_option maxRecDepth 100000 in
theorem r_Model_lines_4_b {p : Program} {l : Launch} {e : Env} {s : State} {m : MethodId} {args : Array Value} {below : List Frame} {meth : Method} {c : Code} {G : zG} {K : Nat} (X : zX p s m args meth c "AllHomeModel" prog_9_method_9_code 4 (some .int) G (zA G K)) {r : Int32} (a0 : Nat) (x1 : Int32) (h : zH) (k4 : (Int32 × Int32) → Option Int32) (hk4 : ∀ (w : Int32 × Int32), k4 w = some r → ∀ (H : Heap) (locs : List Loc) (ls : Array Slot), zI G K s (zA G K) H locs h → lv_has ls 4 [(0, .ref (G.1 a0)), (1, .int x1), (2, .int w.1), (3, .int w.2)] → W p l e (zR 0) s m args below meth c H locs 0 0 (MQ below (zQi G K r h) args s 0 0 (zA G K)) (F0 m 4 ls [])) (u : Int32 × Int32) (hm : g_Model_lines_4 a0 x1 h k4 u = some r) {H : Heap} {locs : List Loc} {ls : Array Slot} (hI : zI G K s (zA G K) H locs h) (hl : lv_has ls 4 [(0, .ref (G.1 a0)), (1, .int x1), (2, .int u.1), (3, .int u.2)]) : W p l e (zR 0) s m args below meth c H locs 0 0 (MQ below (zQi G K r h) args s 0 0 (zA G K)) (F0 m 4 ls []) := by
  obtain ⟨hx, hb, hml, hown, hts, hr, hlocks, hK, hST, hNs⟩ := id X
  unfold g_Model_lines_4 at hm
  refine lv_iload_n hx hb d_Model_lines_4 rfl (lv_at hl 3 rfl) ?_
  refine lv_aload_n hx hb d_Model_lines_5 rfl (lv_at hl 0 rfl) ?_
  obtain ⟨v6, hv, hm⟩ := zbd hm
  refine z_getR X hI F_Model_16 hv d_Model_lines_6 ?_
  refine lv_iload_n hx hb d_Model_lines_9 rfl (lv_at hl 1 rfl) ?_
  obtain ⟨v10, hv, hm⟩ := zbd hm
  refine z_iald X hI hv d_Model_lines_10 ?_
  refine lv_icmp_ge (tgt := 44) hx hb d_Model_lines_11 (by decide) (fun hc11 => ?_) (fun hc11 => ?_)
  · replace hm := zif_t hc11 hm
    refine lv_iload_n hx hb d_Model_lines_44 rfl (lv_at hl 2 rfl) ?_
    obtain rfl := zs1 hm
    exact z_iret X hI d_Model_lines_45
  · replace hm := zif_f hc11 hm
    refine lv_iload_n hx hb d_Model_lines_14 rfl (lv_at hl 2 rfl) ?_
    refine lv_aload_n hx hb d_Model_lines_15 rfl (lv_at hl 0 rfl) ?_
    obtain ⟨v16, hv, hm⟩ := zbd hm
    refine z_getR X hI F_Model_13 hv d_Model_lines_16 ?_
    refine lv_bipush (v := (nI 60)) hx hb d_Model_lines_19 (by decide) ?_
    refine lv_iload_n hx hb d_Model_lines_21 rfl (lv_at hl 1 rfl) ?_
    refine lv_imul hx hb d_Model_lines_22 ?_
    refine lv_iload_n hx hb d_Model_lines_23 rfl (lv_at hl 3 rfl) ?_
    refine lv_iadd hx hb d_Model_lines_24 ?_
    obtain ⟨v25, hv, hm⟩ := zbd hm
    refine z_iald X hI hv d_Model_lines_25 ?_
    refine lv_bipush (v := (nI 59)) hx hb d_Model_lines_26 (by decide) ?_
    refine lv_icmp_ne (tgt := 35) hx hb d_Model_lines_28 (by decide) (fun hc28 => ?_) (fun hc28 => ?_)
    · replace hm := zif_f hc28 hm
      refine lv_iconst (v := (nI 0)) hx hb d_Model_lines_35 (by decide) ?_
      refine lv_iadd hx hb d_Model_lines_36 ?_
      refine lv_istore_n (lv' := [(2, .int (u.1 + (nI 0))), (0, .ref (G.1 a0)), (1, .int x1), (3, .int u.2)]) hx hb d_Model_lines_37 rfl hl (by decide) rfl (fun ls hl => ?_)
      refine lv_iinc (v := (u.2 + (nI 1))) (lv' := [(3, .int (u.2 + (nI 1))), (2, .int (u.1 + (nI 0))), (0, .ref (G.1 a0)), (1, .int x1)]) hx hb d_Model_lines_38 hl (k := 3) rfl (congrArg (fun z => u.2 + z) (show Int32.ofInt (1) = (nI 1) by decide)) (by decide) rfl (fun ls hl => ?_)
      refine lv_goto (tgt := 4) hx hb d_Model_lines_41 (by decide) ?_
      obtain ⟨g0, e0⟩ : ∃ z, z = (u.1 + (nI 0)) := ⟨_, rfl⟩
      rw [← e0] at hm hl
      obtain ⟨g1, e1⟩ : ∃ z, z = (u.2 + (nI 1)) := ⟨_, rfl⟩
      rw [← e1] at hm hl
      exact hk4 (g0, g1) hm _ _ _ hI (lv_sub hl [2, 3, 1, 0] rfl)
    · replace hm := zif_t hc28 hm
      refine lv_iconst (v := (nI 1)) hx hb d_Model_lines_31 (by decide) ?_
      refine lv_goto (tgt := 36) hx hb d_Model_lines_32 (by decide) ?_
      refine lv_iadd hx hb d_Model_lines_36 ?_
      refine lv_istore_n (lv' := [(2, .int (u.1 + (nI 1))), (0, .ref (G.1 a0)), (1, .int x1), (3, .int u.2)]) hx hb d_Model_lines_37 rfl hl (by decide) rfl (fun ls hl => ?_)
      refine lv_iinc (v := (u.2 + (nI 1))) (lv' := [(3, .int (u.2 + (nI 1))), (2, .int (u.1 + (nI 1))), (0, .ref (G.1 a0)), (1, .int x1)]) hx hb d_Model_lines_38 hl (k := 3) rfl (congrArg (fun z => u.2 + z) (show Int32.ofInt (1) = (nI 1) by decide)) (by decide) rfl (fun ls hl => ?_)
      refine lv_goto (tgt := 4) hx hb d_Model_lines_41 (by decide) ?_
      obtain ⟨g0, e0⟩ : ∃ z, z = (u.1 + (nI 1)) := ⟨_, rfl⟩
      rw [← e0] at hm hl
      obtain ⟨g1, e1⟩ : ∃ z, z = (u.2 + (nI 1)) := ⟨_, rfl⟩
      rw [← e1] at hm hl
      exact hk4 (g0, g1) hm _ _ _ hI (lv_sub hl [2, 3, 1, 0] rfl)
theorem r_Model_lines_4 {p : Program} {l : Launch} {e : Env} {s : State} {m : MethodId} {args : Array Value} {below : List Frame} {meth : Method} {c : Code} {G : zG} {K : Nat} (X : zX p s m args meth c "AllHomeModel" prog_9_method_9_code 4 (some .int) G (zA G K)) {r : Int32} (a0 : Nat) (x1 : Int32) (h : zH) : ∀ (n : Nat) (w : Int32 × Int32), zloop (g_Model_lines_4 a0 x1 h) n w = some r → ∀ (H : Heap) (locs : List Loc) (ls : Array Slot), zI G K s (zA G K) H locs h → lv_has ls 4 [(0, .ref (G.1 a0)), (1, .int x1), (2, .int w.1), (3, .int w.2)] → W p l e (zR 0) s m args below meth c H locs 0 0 (MQ below (zQi G K r h) args s 0 0 (zA G K)) (F0 m 4 ls []) := by
  intro n
  induction n with
  | zero => intro w hm; cases hm
  | succ n ih => intro w hm H locs ls hI hl; exact r_Model_lines_4_b X a0 x1 h (zloop (g_Model_lines_4 a0 x1 h) n) ih w (zls hm) hI hl
set_option maxHeartbeats 4000000 in
set_option maxRecDepth 100000 in
theorem r_Model_lines_0 {p : Program} {l : Launch} {e : Env} {s : State} {m : MethodId} {args : Array Value} {below : List Frame} {meth : Method} {c : Code} {G : zG} {K : Nat} (X : zX p s m args meth c "AllHomeModel" prog_9_method_9_code 4 (some .int) G (zA G K)) {r : Int32} (a0 : Nat) (x1 : Int32) (h : zH) (hm : m_Model_lines a0 x1 h = some r) {H : Heap} {locs : List Loc} {ls : Array Slot} (hI : zI G K s (zA G K) H locs h) (hl : lv_has ls 4 [(0, .ref (G.1 a0)), (1, .int x1)]) : W p l e (zR 0) s m args below meth c H locs 0 0 (MQ below (zQi G K r h) args s 0 0 (zA G K)) (F0 m 0 ls []) := by
  obtain ⟨hx, hb, hml, hown, hts, hr, hlocks, hK, hST, hNs⟩ := id X
  unfold m_Model_lines at hm
  refine lv_iconst (v := (nI 1)) hx hb d_Model_lines_0 (by decide) ?_
  refine lv_istore_n (lv' := [(2, .int (nI 1)), (0, .ref (G.1 a0)), (1, .int x1)]) hx hb d_Model_lines_1 rfl hl (by decide) rfl (fun ls hl => ?_)
  refine lv_iconst (v := (nI 0)) hx hb d_Model_lines_2 (by decide) ?_
  refine lv_istore_n (lv' := [(3, .int (nI 0)), (2, .int (nI 1)), (0, .ref (G.1 a0)), (1, .int x1)]) hx hb d_Model_lines_3 rfl hl (by decide) rfl (fun ls hl => ?_)
  exact r_Model_lines_4 X a0 x1 h zN ((nI 1), (nI 0)) hm _ _ _ hI (lv_sub hl [2, 3, 1, 0] rfl)
set_option maxHeartbeats 4000000 in
set_option maxRecDepth 100000 in
theorem c_Model_lines (l : Launch) (G : zG) (K : Nat) (a0 : Nat) (x1 : Int32) (h : zH) (r : Int32) (hm : m_Model_lines a0 x1 h = some r) : zMi l G K y_Model_lines prog_9_method_9_code 4 0 [.ref (G.1 a0), .int x1] h r h := zMet (by decide +kernel) (Nat.le_of_ble_eq_true rfl) (fun p e s m below meth c ls X hI hl => r_Model_lines_0 X a0 x1 h hm hI hl)
