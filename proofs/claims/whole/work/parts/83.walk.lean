-- walk of AllHome$Shelf.at
theorem d_Shelf_at_0 : decode prog_7_method_11_code 0 = .ok (.aload_n 0, 1) := by decide +kernel
theorem d_Shelf_at_1 : decode prog_7_method_11_code 1 = .ok (.iload_n 1, 1) := by decide +kernel
theorem d_Shelf_at_2 : decode prog_7_method_11_code 2 = .ok (.invokevirtual 40, 3) := by decide +kernel
theorem d_Shelf_at_5 : decode prog_7_method_11_code 5 = .ok (.ifCond .eq 12, 3) := by decide +kernel
theorem d_Shelf_at_8 : decode prog_7_method_11_code 8 = .ok (.aload_n 0, 1) := by decide +kernel
theorem d_Shelf_at_9 : decode prog_7_method_11_code 9 = .ok (.getfield 11, 3) := by decide +kernel
theorem d_Shelf_at_12 : decode prog_7_method_11_code 12 = .ok (.iload_n 1, 1) := by decide +kernel
theorem d_Shelf_at_13 : decode prog_7_method_11_code 13 = .ok (.laload, 1) := by decide +kernel
theorem d_Shelf_at_14 : decode prog_7_method_11_code 14 = .ok (.goto 6, 3) := by decide +kernel
theorem d_Shelf_at_17 : decode prog_7_method_11_code 17 = .ok (.ldc2_w 46, 3) := by decide +kernel
theorem d_Shelf_at_20 : decode prog_7_method_11_code 20 = .ok (.lreturn, 1) := by decide +kernel
set_option maxHeartbeats 4000000 in
set_option maxRecDepth 100000 in
theorem r_Shelf_at_0 {p : Program} {l : Launch} {e : Env} {s : State} {m : MethodId} {args : Array Value} {below : List Frame} {meth : Method} {c : Code} {G : zG} {K : Nat} (X : zX p s m args meth c "AllHome$Shelf" prog_7_method_11_code 2 (some .long) G (zA G K)) {r : Int64} (a0 : Nat) (x1 : Int32) (h : zH) (hm : m_Shelf_at a0 x1 h = some r) {H : Heap} {locs : List Loc} {ls : Array Slot} (hI : zI G K s (zA G K) H locs h) (hl : lv_has ls 2 [(0, .ref (G.1 a0)), (1, .int x1)]) : W p l e (zR 1) s m args below meth c H locs 0 0 (MQ below (zQl G K r h) args s 0 0 (zA G K)) (F0 m 0 ls []) := by
  obtain ⟨hx, hb, hml, hown, hts, hr, hlocks, hK, hST, hNs⟩ := id X
  unfold m_Shelf_at at hm
  refine lv_aload_n hx hb d_Shelf_at_0 rfl (lv_at hl 0 rfl) ?_
  refine lv_iload_n hx hb d_Shelf_at_1 rfl (lv_at hl 1 rfl) ?_
  obtain ⟨v2, hv, hm⟩ := zbd hm
  obtain ⟨hq, hv⟩ := zcv_at hv
  refine z_ci hI (z_runV (As := [.int x1]) (rest := []) X hI hl.1 (c_Shelf_hasPlace l G K a0 x1 h _ hv) C_Shelf_40 rfl hq (Nat.le_of_ble_eq_true rfl) ⟨Nat.le_of_ble_eq_true rfl, Nat.le_of_ble_eq_true rfl, Nat.zero_le _, Nat.zero_le _⟩ rfl d_Shelf_at_2) (fun H locs hI => ?_)
  refine lv_if_eq (tgt := 17) hx hb d_Shelf_at_5 (by decide) (fun hc5 => ?_) (fun hc5 => ?_)
  · replace hm := zif_t hc5 hm
    refine lv_ldc2 hx hb hown (hts _ kw410) d_Shelf_at_17 ?_
    obtain rfl := zs1 hm
    exact z_lret X hI d_Shelf_at_20
  · replace hm := zif_f hc5 hm
    refine lv_aload_n hx hb d_Shelf_at_8 rfl (lv_at hl 0 rfl) ?_
    obtain ⟨v9, hv, hm⟩ := zbd hm
    refine z_getR X hI F_Shelf_11 hv d_Shelf_at_9 ?_
    refine lv_iload_n hx hb d_Shelf_at_12 rfl (lv_at hl 1 rfl) ?_
    obtain ⟨v13, hv, hm⟩ := zbd hm
    refine z_lald X hI hv d_Shelf_at_13 ?_
    refine lv_goto (tgt := 20) hx hb d_Shelf_at_14 (by decide) ?_
    obtain rfl := zs1 hm
    exact z_lret X hI d_Shelf_at_20
set_option maxHeartbeats 4000000 in
set_option maxRecDepth 100000 in
theorem c_Shelf_at (l : Launch) (G : zG) (K : Nat) (a0 : Nat) (x1 : Int32) (h : zH) (r : Int64) (hm : m_Shelf_at a0 x1 h = some r) : zMl l G K y_Shelf_at prog_7_method_11_code 2 1 [.ref (G.1 a0), .int x1] h r h := zMet (by decide +kernel) (Nat.le_of_ble_eq_true rfl) (fun p e s m below meth c ls X hI hl => r_Shelf_at_0 X a0 x1 h hm hI hl)
-- walk of AllHome.steps
theorem d_Home_steps_0 : decode prog_1_method_10_code 0 = .ok (.aload_n 0, 1) := by decide +kernel
theorem d_Home_steps_1 : decode prog_1_method_10_code 1 = .ok (.iload_n 1, 1) := by decide +kernel
theorem d_Home_steps_2 : decode prog_1_method_10_code 2 = .ok (.invokevirtual 106, 3) := by decide +kernel
theorem d_Home_steps_5 : decode prog_1_method_10_code 5 = .ok (.ifCond .eq 23, 3) := by decide +kernel
theorem d_Home_steps_8 : decode prog_1_method_10_code 8 = .ok (.iload_n 2, 1) := by decide +kernel
theorem d_Home_steps_9 : decode prog_1_method_10_code 9 = .ok (.invokestatic 113, 3) := by decide +kernel
theorem d_Home_steps_12 : decode prog_1_method_10_code 12 = .ok (.ifCond .eq 16, 3) := by decide +kernel
theorem d_Home_steps_15 : decode prog_1_method_10_code 15 = .ok (.iload 4, 2) := by decide +kernel
theorem d_Home_steps_17 : decode prog_1_method_10_code 17 = .ok (.iconst 1, 1) := by decide +kernel
theorem d_Home_steps_18 : decode prog_1_method_10_code 18 = .ok (.if_icmp .lt 10, 3) := by decide +kernel
theorem d_Home_steps_21 : decode prog_1_method_10_code 21 = .ok (.iload 4, 2) := by decide +kernel
theorem d_Home_steps_23 : decode prog_1_method_10_code 23 = .ok (.bipush 60, 2) := by decide +kernel
theorem d_Home_steps_25 : decode prog_1_method_10_code 25 = .ok (.if_icmp .le 5, 3) := by decide +kernel
theorem d_Home_steps_28 : decode prog_1_method_10_code 28 = .ok (.iconst (-1), 1) := by decide +kernel
theorem d_Home_steps_29 : decode prog_1_method_10_code 29 = .ok (.ireturn, 1) := by decide +kernel
theorem d_Home_steps_30 : decode prog_1_method_10_code 30 = .ok (.aload_n 0, 1) := by decide +kernel
theorem d_Home_steps_31 : decode prog_1_method_10_code 31 = .ok (.getfield 53, 3) := by decide +kernel
theorem d_Home_steps_34 : decode prog_1_method_10_code 34 = .ok (.iload_n 2, 1) := by decide +kernel
theorem d_Home_steps_35 : decode prog_1_method_10_code 35 = .ok (.aaload, 1) := by decide +kernel
theorem d_Home_steps_36 : decode prog_1_method_10_code 36 = .ok (.astore 5, 2) := by decide +kernel
theorem d_Home_steps_38 : decode prog_1_method_10_code 38 = .ok (.aload 5, 2) := by decide +kernel
theorem d_Home_steps_40 : decode prog_1_method_10_code 40 = .ok (.invokevirtual 116, 3) := by decide +kernel
theorem d_Home_steps_43 : decode prog_1_method_10_code 43 = .ok (.ifCond .eq 5, 3) := by decide +kernel
theorem d_Home_steps_46 : decode prog_1_method_10_code 46 = .ok (.iconst 0, 1) := by decide +kernel
theorem d_Home_steps_47 : decode prog_1_method_10_code 47 = .ok (.ireturn, 1) := by decide +kernel
theorem d_Home_steps_48 : decode prog_1_method_10_code 48 = .ok (.aload 5, 2) := by decide +kernel
theorem d_Home_steps_50 : decode prog_1_method_10_code 50 = .ok (.iconst 1, 1) := by decide +kernel
theorem d_Home_steps_51 : decode prog_1_method_10_code 51 = .ok (.invokevirtual 120, 3) := by decide +kernel
theorem d_Home_steps_54 : decode prog_1_method_10_code 54 = .ok (.ifCond .ne 6, 3) := by decide +kernel
theorem d_Home_steps_57 : decode prog_1_method_10_code 57 = .ok (.bipush (-12), 2) := by decide +kernel
theorem d_Home_steps_59 : decode prog_1_method_10_code 59 = .ok (.ireturn, 1) := by decide +kernel
theorem d_Home_steps_60 : decode prog_1_method_10_code 60 = .ok (.iconst 0, 1) := by decide +kernel
theorem d_Home_steps_61 : decode prog_1_method_10_code 61 = .ok (.istore 6, 2) := by decide +kernel
theorem d_Home_steps_63 : decode prog_1_method_10_code 63 = .ok (.iload 6, 2) := by decide +kernel
theorem d_Home_steps_65 : decode prog_1_method_10_code 65 = .ok (.iload 4, 2) := by decide +kernel
theorem d_Home_steps_67 : decode prog_1_method_10_code 67 = .ok (.if_icmp .ge 76, 3) := by decide +kernel
theorem d_Home_steps_70 : decode prog_1_method_10_code 70 = .ok (.aload 5, 2) := by decide +kernel
theorem d_Home_steps_72 : decode prog_1_method_10_code 72 = .ok (.iload_n 3, 1) := by decide +kernel
theorem d_Home_steps_73 : decode prog_1_method_10_code 73 = .ok (.invokevirtual 123, 3) := by decide +kernel
theorem d_Home_steps_76 : decode prog_1_method_10_code 76 = .ok (.ifCond .eq 67, 3) := by decide +kernel
theorem d_Home_steps_79 : decode prog_1_method_10_code 79 = .ok (.aload 5, 2) := by decide +kernel
theorem d_Home_steps_81 : decode prog_1_method_10_code 81 = .ok (.iload_n 3, 1) := by decide +kernel
theorem d_Home_steps_82 : decode prog_1_method_10_code 82 = .ok (.iload 6, 2) := by decide +kernel
theorem d_Home_steps_84 : decode prog_1_method_10_code 84 = .ok (.iadd, 1) := by decide +kernel
theorem d_Home_steps_85 : decode prog_1_method_10_code 85 = .ok (.invokevirtual 123, 3) := by decide +kernel
theorem d_Home_steps_88 : decode prog_1_method_10_code 88 = .ok (.ifCond .eq 55, 3) := by decide +kernel
theorem d_Home_steps_91 : decode prog_1_method_10_code 91 = .ok (.aload 5, 2) := by decide +kernel
theorem d_Home_steps_93 : decode prog_1_method_10_code 93 = .ok (.iload_n 3, 1) := by decide +kernel
theorem d_Home_steps_94 : decode prog_1_method_10_code 94 = .ok (.iload 6, 2) := by decide +kernel
theorem d_Home_steps_96 : decode prog_1_method_10_code 96 = .ok (.iadd, 1) := by decide +kernel
theorem d_Home_steps_97 : decode prog_1_method_10_code 97 = .ok (.invokevirtual 126, 3) := by decide +kernel
theorem d_Home_steps_100 : decode prog_1_method_10_code 100 = .ok (.l2i, 1) := by decide +kernel
theorem d_Home_steps_101 : decode prog_1_method_10_code 101 = .ok (.istore 7, 2) := by decide +kernel
theorem d_Home_steps_103 : decode prog_1_method_10_code 103 = .ok (.iload 7, 2) := by decide +kernel
theorem d_Home_steps_105 : decode prog_1_method_10_code 105 = .ok (.ifCond .lt 29, 3) := by decide +kernel
theorem d_Home_steps_108 : decode prog_1_method_10_code 108 = .ok (.aload_n 0, 1) := by decide +kernel
theorem d_Home_steps_109 : decode prog_1_method_10_code 109 = .ok (.getfield 25, 3) := by decide +kernel
theorem d_Home_steps_112 : decode prog_1_method_10_code 112 = .ok (.iload_n 1, 1) := by decide +kernel
theorem d_Home_steps_113 : decode prog_1_method_10_code 113 = .ok (.aaload, 1) := by decide +kernel
theorem d_Home_steps_114 : decode prog_1_method_10_code 114 = .ok (.aload_n 0, 1) := by decide +kernel
theorem d_Home_steps_115 : decode prog_1_method_10_code 115 = .ok (.getfield 29, 3) := by decide +kernel
theorem d_Home_steps_118 : decode prog_1_method_10_code 118 = .ok (.iload 7, 2) := by decide +kernel
theorem d_Home_steps_120 : decode prog_1_method_10_code 120 = .ok (.bipush 100, 2) := by decide +kernel
theorem d_Home_steps_122 : decode prog_1_method_10_code 122 = .ok (.idiv, 1) := by decide +kernel
theorem d_Home_steps_123 : decode prog_1_method_10_code 123 = .ok (.iload 7, 2) := by decide +kernel
theorem d_Home_steps_125 : decode prog_1_method_10_code 125 = .ok (.bipush 100, 2) := by decide +kernel
theorem d_Home_steps_127 : decode prog_1_method_10_code 127 = .ok (.irem, 1) := by decide +kernel
theorem d_Home_steps_128 : decode prog_1_method_10_code 128 = .ok (.invokevirtual 109, 3) := by decide +kernel
theorem d_Home_steps_131 : decode prog_1_method_10_code 131 = .ok (.ifCond .ge 6, 3) := by decide +kernel
theorem d_Home_steps_134 : decode prog_1_method_10_code 134 = .ok (.iload 6, 2) := by decide +kernel
theorem d_Home_steps_136 : decode prog_1_method_10_code 136 = .ok (.ireturn, 1) := by decide +kernel
theorem d_Home_steps_137 : decode prog_1_method_10_code 137 = .ok (.iinc 6 1, 3) := by decide +kernel
theorem d_Home_steps_140 : decode prog_1_method_10_code 140 = .ok (.goto (-77), 3) := by decide +kernel
theorem d_Home_steps_143 : decode prog_1_method_10_code 143 = .ok (.iload 6, 2) := by decide +kernel
theorem d_Home_steps_145 : decode prog_1_method_10_code 145 = .ok (.ireturn, 1) := by decide +kernel
set_option maxHeartbeats 4000000 in
set_option maxRecDepth 100000 in
theorem r_Home_steps_63_b {p : Program} {l : Launch} {e : Env} {s : State} {m : MethodId} {args : Array Value} {below : List Frame} {meth : Method} {c : Code} {G : zG} {K : Nat} (X : zX p s m args meth c "AllHome" prog_1_method_10_code 8 (some .int) G (zA G K)) {r : Int32} {h' : zH} (a0 : Nat) (x1 : Int32) (x3 : Int32) (x4 : Int32) (a5 : Nat) (k63 : (Int32 × zH) → Option (Int32 × zH)) (hk63 : ∀ (w : Int32 × zH), k63 w = some (r, h') → ∀ (H : Heap) (locs : List Loc) (ls : Array Slot), zI G K s (zA G K) H locs w.2 → lv_has ls 8 [(0, .ref (G.1 a0)), (1, .int x1), (3, .int x3), (4, .int x4), (5, .ref (G.1 a5)), (6, .int w.1)] → W p l e (zR 5) s m args below meth c H locs 0 0 (MQ below (zQi G K r h') args s 0 0 (zA G K)) (F0 m 63 ls [])) (u : Int32 × zH) (hm : g_Home_steps_63 a0 x1 x3 x4 a5 k63 u = some (r, h')) {H : Heap} {locs : List Loc} {ls : Array Slot} (hI : zI G K s (zA G K) H locs u.2) (hl : lv_has ls 8 [(0, .ref (G.1 a0)), (1, .int x1), (3, .int x3), (4, .int x4), (5, .ref (G.1 a5)), (6, .int u.1)]) : W p l e (zR 5) s m args below meth c H locs 0 0 (MQ below (zQi G K r h') args s 0 0 (zA G K)) (F0 m 63 ls []) := by
  obtain ⟨hx, hb, hml, hown, hts, hr, hlocks, hK, hST, hNs⟩ := id X
  unfold g_Home_steps_63 at hm
  refine lv_iload hx hb d_Home_steps_63 (lv_at hl 5 rfl) ?_
  refine lv_iload hx hb d_Home_steps_65 (lv_at hl 3 rfl) ?_
  refine lv_icmp_ge (tgt := 143) hx hb d_Home_steps_67 (by decide) (fun hc67 => ?_) (fun hc67 => ?_)
  · replace hm := zif_t hc67 hm
    refine lv_iload hx hb d_Home_steps_143 (lv_at hl 5 rfl) ?_
    obtain ⟨rfl, rfl⟩ := zs2 hm
    exact z_iret X hI d_Home_steps_145
  · replace hm := zif_f hc67 hm
    refine lv_aload hx hb d_Home_steps_70 (lv_at hl 4 rfl) ?_
    refine lv_iload_n hx hb d_Home_steps_72 rfl (lv_at hl 2 rfl) ?_
    obtain ⟨v73, hv, hm⟩ := zbd hm
    obtain ⟨hq, hv⟩ := zcv_at hv
    refine z_ci hI (z_runV (As := [.int x3]) (rest := []) X hI hl.1 (c_Shelf_hasPlace l G K a5 x3 u.2 _ hv) C_Home_123 rfl hq (Nat.le_of_ble_eq_true rfl) ⟨Nat.le_of_ble_eq_true rfl, Nat.le_of_ble_eq_true rfl, Nat.zero_le _, Nat.zero_le _⟩ rfl d_Home_steps_73) (fun H locs hI => ?_)
    refine lv_if_eq (tgt := 143) hx hb d_Home_steps_76 (by decide) (fun hc76 => ?_) (fun hc76 => ?_)
    · replace hm := zif_t hc76 hm
      refine lv_iload hx hb d_Home_steps_143 (lv_at hl 5 rfl) ?_
      obtain ⟨rfl, rfl⟩ := zs2 hm
      exact z_iret X hI d_Home_steps_145
    · replace hm := zif_f hc76 hm
      refine lv_aload hx hb d_Home_steps_79 (lv_at hl 4 rfl) ?_
      refine lv_iload_n hx hb d_Home_steps_81 rfl (lv_at hl 2 rfl) ?_
      refine lv_iload hx hb d_Home_steps_82 (lv_at hl 5 rfl) ?_
      refine lv_iadd hx hb d_Home_steps_84 ?_
      obtain ⟨v85, hv, hm⟩ := zbd hm
      obtain ⟨hq, hv⟩ := zcv_at hv
      refine z_ci hI (z_runV (As := [.int (x3 + u.1)]) (rest := []) X hI hl.1 (c_Shelf_hasPlace l G K a5 (x3 + u.1) u.2 _ hv) C_Home_123 rfl hq (Nat.le_of_ble_eq_true rfl) ⟨Nat.le_of_ble_eq_true rfl, Nat.le_of_ble_eq_true rfl, Nat.zero_le _, Nat.zero_le _⟩ rfl d_Home_steps_85) (fun H locs hI => ?_)
      refine lv_if_eq (tgt := 143) hx hb d_Home_steps_88 (by decide) (fun hc88 => ?_) (fun hc88 => ?_)
      · replace hm := zif_t hc88 hm
        refine lv_iload hx hb d_Home_steps_143 (lv_at hl 5 rfl) ?_
        obtain ⟨rfl, rfl⟩ := zs2 hm
        exact z_iret X hI d_Home_steps_145
      · replace hm := zif_f hc88 hm
        refine lv_aload hx hb d_Home_steps_91 (lv_at hl 4 rfl) ?_
        refine lv_iload_n hx hb d_Home_steps_93 rfl (lv_at hl 2 rfl) ?_
        refine lv_iload hx hb d_Home_steps_94 (lv_at hl 5 rfl) ?_
        refine lv_iadd hx hb d_Home_steps_96 ?_
        obtain ⟨v97, hv, hm⟩ := zbd hm
        obtain ⟨hq, hv⟩ := zcv_at hv
        refine z_cl hI (z_runV (As := [.int (x3 + u.1)]) (rest := []) X hI hl.1 (c_Shelf_at l G K a5 (x3 + u.1) u.2 _ hv) C_Home_126 rfl hq (Nat.le_of_ble_eq_true rfl) ⟨Nat.le_of_ble_eq_true rfl, Nat.le_of_ble_eq_true rfl, Nat.zero_le _, Nat.zero_le _⟩ rfl d_Home_steps_97) (fun H locs hI => ?_)
        refine lv_l2i hx hb d_Home_steps_100 rfl ?_
        refine lv_istore (lv' := [(7, .int v97.toInt32), (0, .ref (G.1 a0)), (1, .int x1), (3, .int x3), (4, .int x4), (5, .ref (G.1 a5)), (6, .int u.1)]) hx hb d_Home_steps_101 hl (by decide) rfl (fun ls hl => ?_)
        refine lv_iload hx hb d_Home_steps_103 (lv_at hl 0 rfl) ?_
        refine lv_if_lt (tgt := 134) hx hb d_Home_steps_105 (by decide) (fun hc105 => ?_) (fun hc105 => ?_)
        · replace hm := zif_t hc105 hm
          refine lv_iload hx hb d_Home_steps_134 (lv_at hl 6 rfl) ?_
          obtain ⟨rfl, rfl⟩ := zs2 hm
          exact z_iret X hI d_Home_steps_136
        · replace hm := zif_f hc105 hm
          refine lv_aload_n hx hb d_Home_steps_108 rfl (lv_at hl 1 rfl) ?_
          obtain ⟨v109, hv, hm⟩ := zbd hm
          refine z_getR X hI F_Home_25 hv d_Home_steps_109 ?_
          refine lv_iload_n hx hb d_Home_steps_112 rfl (lv_at hl 2 rfl) ?_
          obtain ⟨v113, hv, hm⟩ := zbd hm
          refine z_aald X hI 3 (.object "AllHome$Run") rfl rfl hv d_Home_steps_113 ?_
          refine lv_aload_n hx hb d_Home_steps_114 rfl (lv_at hl 1 rfl) ?_
          obtain ⟨v115, hv, hm⟩ := zbd hm
          refine z_getR X hI F_Home_29 hv d_Home_steps_115 ?_
          refine lv_iload hx hb d_Home_steps_118 (lv_at hl 0 rfl) ?_
          refine lv_bipush (v := (nI 100)) hx hb d_Home_steps_120 (by decide) ?_
          refine lv_idiv hx hb d_Home_steps_122 (by decide) ?_
          refine lv_iload hx hb d_Home_steps_123 (lv_at hl 0 rfl) ?_
          refine lv_bipush (v := (nI 100)) hx hb d_Home_steps_125 (by decide) ?_
          refine lv_irem hx hb d_Home_steps_127 (by decide) ?_
          obtain ⟨v128, h128, hv, hm⟩ := zb2_at hm
          obtain ⟨hq, hv⟩ := zcv_at hv
          refine z_ci hI (z_runV (As := [.ref (G.1 v115), .int (v97.toInt32 / (nI 100)), .int (v97.toInt32 - v97.toInt32 / (nI 100) * (nI 100))]) (rest := []) X hI hl.1 (c_Run_advance l G K v113 v115 (v97.toInt32 / (nI 100)) (v97.toInt32 - v97.toInt32 / (nI 100) * (nI 100)) u.2 _ _ hv) C_Home_109 rfl hq (Nat.le_of_ble_eq_true rfl) ⟨Nat.le_of_ble_eq_true rfl, Nat.le_of_ble_eq_true rfl, Nat.zero_le _, Nat.zero_le _⟩ rfl d_Home_steps_128) (fun H locs hI => ?_)
          refine lv_if_ge (tgt := 137) hx hb d_Home_steps_131 (by decide) (fun hc131 => ?_) (fun hc131 => ?_)
          · replace hm := zif_t hc131 hm
            refine lv_iinc (v := (u.1 + (nI 1))) (lv' := [(6, .int (u.1 + (nI 1))), (7, .int v97.toInt32), (0, .ref (G.1 a0)), (1, .int x1), (3, .int x3), (4, .int x4), (5, .ref (G.1 a5))]) hx hb d_Home_steps_137 hl (k := 6) rfl (congrArg (fun z => u.1 + z) (show Int32.ofInt (1) = (nI 1) by decide)) (by decide) rfl (fun ls hl => ?_)
            refine lv_goto (tgt := 63) hx hb d_Home_steps_140 (by decide) ?_
            obtain ⟨g0, e0⟩ : ∃ z, z = (u.1 + (nI 1)) := ⟨_, rfl⟩
            rw [← e0] at hm hl
            exact hk63 (g0, h128) hm _ _ _ hI (lv_sub hl [2, 3, 4, 5, 6, 0] rfl)
          · replace hm := zif_f hc131 hm
            refine lv_iload hx hb d_Home_steps_134 (lv_at hl 6 rfl) ?_
            obtain ⟨rfl, rfl⟩ := zs2 hm
            exact z_iret X hI d_Home_steps_136
theorem r_Home_steps_63 {p : Program} {l : Launch} {e : Env} {s : State} {m : MethodId} {args : Array Value} {below : List Frame} {meth : Method} {c : Code} {G : zG} {K : Nat} (X : zX p s m args meth c "AllHome" prog_1_method_10_code 8 (some .int) G (zA G K)) {r : Int32} {h' : zH} (a0 : Nat) (x1 : Int32) (x3 : Int32) (x4 : Int32) (a5 : Nat) : ∀ (n : Nat) (w : Int32 × zH), zloop (g_Home_steps_63 a0 x1 x3 x4 a5) n w = some (r, h') → ∀ (H : Heap) (locs : List Loc) (ls : Array Slot), zI G K s (zA G K) H locs w.2 → lv_has ls 8 [(0, .ref (G.1 a0)), (1, .int x1), (3, .int x3), (4, .int x4), (5, .ref (G.1 a5)), (6, .int w.1)] → W p l e (zR 5) s m args below meth c H locs 0 0 (MQ below (zQi G K r h') args s 0 0 (zA G K)) (F0 m 63 ls []) := by
  intro n
  induction n with
  | zero => intro w hm; cases hm
  | succ n ih => intro w hm H locs ls hI hl; exact r_Home_steps_63_b X a0 x1 x3 x4 a5 (zloop (g_Home_steps_63 a0 x1 x3 x4 a5) n) ih w (zls hm) hI hl
set_option maxHeartbeats 4000000 in
set_option maxRecDepth 100000 in
theorem r_Home_steps_0 {p : Program} {l : Launch} {e : Env} {s : State} {m : MethodId} {args : Array Value} {below : List Frame} {meth : Method} {c : Code} {G : zG} {K : Nat} (X : zX p s m args meth c "AllHome" prog_1_method_10_code 8 (some .int) G (zA G K)) {r : Int32} {h' : zH} (a0 : Nat) (x1 : Int32) (x2 : Int32) (x3 : Int32) (x4 : Int32) (h : zH) (hm : m_Home_steps a0 x1 x2 x3 x4 h = some (r, h')) {H : Heap} {locs : List Loc} {ls : Array Slot} (hI : zI G K s (zA G K) H locs h) (hl : lv_has ls 8 [(0, .ref (G.1 a0)), (1, .int x1), (2, .int x2), (3, .int x3), (4, .int x4)]) : W p l e (zR 5) s m args below meth c H locs 0 0 (MQ below (zQi G K r h') args s 0 0 (zA G K)) (F0 m 0 ls []) := by
  obtain ⟨hx, hb, hml, hown, hts, hr, hlocks, hK, hST, hNs⟩ := id X
  unfold m_Home_steps at hm
  refine lv_aload_n hx hb d_Home_steps_0 rfl (lv_at hl 0 rfl) ?_
  refine lv_iload_n hx hb d_Home_steps_1 rfl (lv_at hl 1 rfl) ?_
  obtain ⟨v2, hv, hm⟩ := zbd hm
  obtain ⟨hq, hv⟩ := zcv_at hv
  refine z_ci hI (z_runV (As := [.int x1]) (rest := []) X hI hl.1 (c_Home_isRun l G K a0 x1 h _ hv) C_Home_106 rfl hq (Nat.le_of_ble_eq_true rfl) ⟨Nat.le_of_ble_eq_true rfl, Nat.le_of_ble_eq_true rfl, Nat.zero_le _, Nat.zero_le _⟩ rfl d_Home_steps_2) (fun H locs hI => ?_)
  refine lv_if_eq (tgt := 28) hx hb d_Home_steps_5 (by decide) (fun hc5 => ?_) (fun hc5 => ?_)
  · replace hm := zif_t hc5 hm
    refine lv_iconst (v := (-1 : Int32)) hx hb d_Home_steps_28 (by decide) ?_
    obtain ⟨rfl, rfl⟩ := zs2 hm
    exact z_iret X hI d_Home_steps_29
  · replace hm := zif_f hc5 hm
    refine lv_iload_n hx hb d_Home_steps_8 rfl (lv_at hl 2 rfl) ?_
    obtain ⟨v9, hv, hm⟩ := zbd hm
    refine z_ci hI (z_runS (As := [.int x2]) (rest := []) X hI hl.1 (c_Home_isShelf l G K x2 h _ hv) C_Home_113 rfl (Nat.le_of_ble_eq_true rfl) ⟨Nat.le_of_ble_eq_true rfl, Nat.le_of_ble_eq_true rfl, Nat.zero_le _, Nat.zero_le _⟩ rfl d_Home_steps_9) (fun H locs hI => ?_)
    refine lv_if_eq (tgt := 28) hx hb d_Home_steps_12 (by decide) (fun hc12 => ?_) (fun hc12 => ?_)
    · replace hm := zif_t hc12 hm
      refine lv_iconst (v := (-1 : Int32)) hx hb d_Home_steps_28 (by decide) ?_
      obtain ⟨rfl, rfl⟩ := zs2 hm
      exact z_iret X hI d_Home_steps_29
    · replace hm := zif_f hc12 hm
      refine lv_iload hx hb d_Home_steps_15 (lv_at hl 4 rfl) ?_
      refine lv_iconst (v := (nI 1)) hx hb d_Home_steps_17 (by decide) ?_
      refine lv_icmp_lt (tgt := 28) hx hb d_Home_steps_18 (by decide) (fun hc18 => ?_) (fun hc18 => ?_)
      · replace hm := zif_t hc18 hm
        refine lv_iconst (v := (-1 : Int32)) hx hb d_Home_steps_28 (by decide) ?_
        obtain ⟨rfl, rfl⟩ := zs2 hm
        exact z_iret X hI d_Home_steps_29
      · replace hm := zif_f hc18 hm
        refine lv_iload hx hb d_Home_steps_21 (lv_at hl 4 rfl) ?_
        refine lv_bipush (v := (nI 60)) hx hb d_Home_steps_23 (by decide) ?_
        refine lv_icmp_le (tgt := 30) hx hb d_Home_steps_25 (by decide) (fun hc25 => ?_) (fun hc25 => ?_)
        · replace hm := zif_t hc25 hm
          refine lv_aload_n hx hb d_Home_steps_30 rfl (lv_at hl 0 rfl) ?_
          obtain ⟨v31, hv, hm⟩ := zbd hm
          refine z_getR X hI F_Home_53 hv d_Home_steps_31 ?_
          refine lv_iload_n hx hb d_Home_steps_34 rfl (lv_at hl 2 rfl) ?_
          obtain ⟨v35, hv, hm⟩ := zbd hm
          refine z_aald X hI 4 (.object "AllHome$Shelf") rfl rfl hv d_Home_steps_35 ?_
          refine lv_astore (lv' := [(5, .ref (G.1 v35)), (0, .ref (G.1 a0)), (1, .int x1), (2, .int x2), (3, .int x3), (4, .int x4)]) hx hb d_Home_steps_36 hl (by decide) rfl (fun ls hl => ?_)
          refine lv_aload hx hb d_Home_steps_38 (lv_at hl 0 rfl) ?_
          obtain ⟨v40, hv, hm⟩ := zbd hm
          obtain ⟨hq, hv⟩ := zcv_at hv
          refine z_ci hI (z_runV (As := []) (rest := []) X hI hl.1 (c_Shelf_isEmpty l G K v35 h _ hv) C_Home_116 rfl hq (Nat.le_of_ble_eq_true rfl) ⟨Nat.le_of_ble_eq_true rfl, Nat.le_of_ble_eq_true rfl, Nat.zero_le _, Nat.zero_le _⟩ rfl d_Home_steps_40) (fun H locs hI => ?_)
          refine lv_if_eq (tgt := 48) hx hb d_Home_steps_43 (by decide) (fun hc43 => ?_) (fun hc43 => ?_)
          · replace hm := zif_t hc43 hm
            refine lv_aload hx hb d_Home_steps_48 (lv_at hl 0 rfl) ?_
            refine lv_iconst (v := (nI 1)) hx hb d_Home_steps_50 (by decide) ?_
            obtain ⟨v51, hv, hm⟩ := zbd hm
            obtain ⟨hq, hv⟩ := zcv_at hv
            refine z_ci hI (z_runV (As := [.int (nI 1)]) (rest := []) X hI hl.1 (c_Shelf_isRowOf l G K v35 (nI 1) h _ hv) C_Home_120 rfl hq (Nat.le_of_ble_eq_true rfl) ⟨Nat.le_of_ble_eq_true rfl, Nat.le_of_ble_eq_true rfl, Nat.zero_le _, Nat.zero_le _⟩ rfl d_Home_steps_51) (fun H locs hI => ?_)
            refine lv_if_ne (tgt := 60) hx hb d_Home_steps_54 (by decide) (fun hc54 => ?_) (fun hc54 => ?_)
            · replace hm := zif_f hc54 hm
              refine lv_iconst (v := (nI 0)) hx hb d_Home_steps_60 (by decide) ?_
              refine lv_istore (lv' := [(6, .int (nI 0)), (5, .ref (G.1 v35)), (0, .ref (G.1 a0)), (1, .int x1), (2, .int x2), (3, .int x3), (4, .int x4)]) hx hb d_Home_steps_61 hl (by decide) rfl (fun ls hl => ?_)
              exact r_Home_steps_63 X a0 x1 x3 x4 v35 zN ((nI 0), h) hm _ _ _ hI (lv_sub hl [2, 3, 5, 6, 1, 0] rfl)
            · replace hm := zif_t hc54 hm
              refine lv_bipush (v := (-12 : Int32)) hx hb d_Home_steps_57 (by decide) ?_
              obtain ⟨rfl, rfl⟩ := zs2 hm
              exact z_iret X hI d_Home_steps_59
          · replace hm := zif_f hc43 hm
            refine lv_iconst (v := (nI 0)) hx hb d_Home_steps_46 (by decide) ?_
            obtain ⟨rfl, rfl⟩ := zs2 hm
            exact z_iret X hI d_Home_steps_47
        · replace hm := zif_f hc25 hm
          refine lv_iconst (v := (-1 : Int32)) hx hb d_Home_steps_28 (by decide) ?_
          obtain ⟨rfl, rfl⟩ := zs2 hm
          exact z_iret X hI d_Home_steps_29
set_option maxHeartbeats 4000000 in
set_option maxRecDepth 100000 in
theorem c_Home_steps (l : Launch) (G : zG) (K : Nat) (a0 : Nat) (x1 : Int32) (x2 : Int32) (x3 : Int32) (x4 : Int32) (h : zH) (r : Int32) (h' : zH) (hm : m_Home_steps a0 x1 x2 x3 x4 h = some (r, h')) : zMi l G K y_Home_steps prog_1_method_10_code 8 5 [.ref (G.1 a0), .int x1, .int x2, .int x3, .int x4] h r h' := zMet (by decide +kernel) (Nat.le_of_ble_eq_true rfl) (fun p e s m below meth c ls X hI hl => r_Home_steps_0 X a0 x1 x2 x3 x4 h hm hI hl)
-- walk of AllHome$Run.hutsAwake
theorem d_Run_hutsAwake_0 : decode prog_6_method_7_code 0 = .ok (.iconst 0, 1) := by decide +kernel
theorem d_Run_hutsAwake_1 : decode prog_6_method_7_code 1 = .ok (.istore_n 1, 1) := by decide +kernel
theorem d_Run_hutsAwake_2 : decode prog_6_method_7_code 2 = .ok (.iconst 0, 1) := by decide +kernel
theorem d_Run_hutsAwake_3 : decode prog_6_method_7_code 3 = .ok (.istore_n 2, 1) := by decide +kernel
theorem d_Run_hutsAwake_4 : decode prog_6_method_7_code 4 = .ok (.iload_n 2, 1) := by decide +kernel
theorem d_Run_hutsAwake_5 : decode prog_6_method_7_code 5 = .ok (.bipush 6, 2) := by decide +kernel
theorem d_Run_hutsAwake_7 : decode prog_6_method_7_code 7 = .ok (.if_icmp .ge 20, 3) := by decide +kernel
theorem d_Run_hutsAwake_10 : decode prog_6_method_7_code 10 = .ok (.iload_n 1, 1) := by decide +kernel
theorem d_Run_hutsAwake_11 : decode prog_6_method_7_code 11 = .ok (.aload_n 0, 1) := by decide +kernel
theorem d_Run_hutsAwake_12 : decode prog_6_method_7_code 12 = .ok (.getfield 9, 3) := by decide +kernel
theorem d_Run_hutsAwake_15 : decode prog_6_method_7_code 15 = .ok (.iconst 0, 1) := by decide +kernel
theorem d_Run_hutsAwake_16 : decode prog_6_method_7_code 16 = .ok (.iload_n 2, 1) := by decide +kernel
theorem d_Run_hutsAwake_17 : decode prog_6_method_7_code 17 = .ok (.iadd, 1) := by decide +kernel
theorem d_Run_hutsAwake_18 : decode prog_6_method_7_code 18 = .ok (.iaload, 1) := by decide +kernel
theorem d_Run_hutsAwake_19 : decode prog_6_method_7_code 19 = .ok (.iadd, 1) := by decide +kernel
theorem d_Run_hutsAwake_20 : decode prog_6_method_7_code 20 = .ok (.istore_n 1, 1) := by decide +kernel
theorem d_Run_hutsAwake_21 : decode prog_6_method_7_code 21 = .ok (.iinc 2 1, 3) := by decide +kernel
theorem d_Run_hutsAwake_24 : decode prog_6_method_7_code 24 = .ok (.goto (-20), 3) := by decide +kernel
theorem d_Run_hutsAwake_27 : decode prog_6_method_7_code 27 = .ok (.iload_n 1, 1) := by decide +kernel
theorem d_Run_hutsAwake_28 : decode prog_6_method_7_code 28 = .ok (.ireturn, 1) := by decide +kernel
set_option maxHeartbeats 4000000 in
set_option maxRecDepth 100000 in
theorem r_Run_hutsAwake_4_b {p : Program} {l : Launch} {e : Env} {s : State} {m : MethodId} {args : Array Value} {below : List Frame} {meth : Method} {c : Code} {G : zG} {K : Nat} (X : zX p s m args meth c "AllHome$Run" prog_6_method_7_code 3 (some .int) G (zA G K)) {r : Int32} (a0 : Nat) (h : zH) (k4 : (Int32 × Int32) → Option Int32) (hk4 : ∀ (w : Int32 × Int32), k4 w = some r → ∀ (H : Heap) (locs : List Loc) (ls : Array Slot), zI G K s (zA G K) H locs h → lv_has ls 3 [(0, .ref (G.1 a0)), (1, .int w.1), (2, .int w.2)] → W p l e (zR 0) s m args below meth c H locs 0 0 (MQ below (zQi G K r h) args s 0 0 (zA G K)) (F0 m 4 ls [])) (u : Int32 × Int32) (hm : g_Run_hutsAwake_4 a0 h k4 u = some r) {H : Heap} {locs : List Loc} {ls : Array Slot} (hI : zI G K s (zA G K) H locs h) (hl : lv_has ls 3 [(0, .ref (G.1 a0)), (1, .int u.1), (2, .int u.2)]) : W p l e (zR 0) s m args below meth c H locs 0 0 (MQ below (zQi G K r h) args s 0 0 (zA G K)) (F0 m 4 ls []) := by
  obtain ⟨hx, hb, hml, hown, hts, hr, hlocks, hK, hST, hNs⟩ := id X
  unfold g_Run_hutsAwake_4 at hm
  refine lv_iload_n hx hb d_Run_hutsAwake_4 rfl (lv_at hl 2 rfl) ?_
  refine lv_bipush (v := (nI 6)) hx hb d_Run_hutsAwake_5 (by decide) ?_
  refine lv_icmp_ge (tgt := 27) hx hb d_Run_hutsAwake_7 (by decide) (fun hc7 => ?_) (fun hc7 => ?_)
  · replace hm := zif_t hc7 hm
    refine lv_iload_n hx hb d_Run_hutsAwake_27 rfl (lv_at hl 1 rfl) ?_
    obtain rfl := zs1 hm
    exact z_iret X hI d_Run_hutsAwake_28
  · replace hm := zif_f hc7 hm
    refine lv_iload_n hx hb d_Run_hutsAwake_10 rfl (lv_at hl 1 rfl) ?_
    refine lv_aload_n hx hb d_Run_hutsAwake_11 rfl (lv_at hl 0 rfl) ?_
    obtain ⟨v12, hv, hm⟩ := zbd hm
    refine z_getR X hI F_Run_9 hv d_Run_hutsAwake_12 ?_
    refine lv_iconst (v := (nI 0)) hx hb d_Run_hutsAwake_15 (by decide) ?_
    refine lv_iload_n hx hb d_Run_hutsAwake_16 rfl (lv_at hl 2 rfl) ?_
    refine lv_iadd hx hb d_Run_hutsAwake_17 ?_
    obtain ⟨v18, hv, hm⟩ := zbd hm
    refine z_iald X hI hv d_Run_hutsAwake_18 ?_
    refine lv_iadd hx hb d_Run_hutsAwake_19 ?_
    refine lv_istore_n (lv' := [(1, .int (u.1 + v18)), (0, .ref (G.1 a0)), (2, .int u.2)]) hx hb d_Run_hutsAwake_20 rfl hl (by decide) rfl (fun ls hl => ?_)
    refine lv_iinc (v := (u.2 + (nI 1))) (lv' := [(2, .int (u.2 + (nI 1))), (1, .int (u.1 + v18)), (0, .ref (G.1 a0))]) hx hb d_Run_hutsAwake_21 hl (k := 2) rfl (congrArg (fun z => u.2 + z) (show Int32.ofInt (1) = (nI 1) by decide)) (by decide) rfl (fun ls hl => ?_)
    refine lv_goto (tgt := 4) hx hb d_Run_hutsAwake_24 (by decide) ?_
    obtain ⟨g0, e0⟩ : ∃ z, z = (u.1 + v18) := ⟨_, rfl⟩
    rw [← e0] at hm hl
    obtain ⟨g1, e1⟩ : ∃ z, z = (u.2 + (nI 1)) := ⟨_, rfl⟩
    rw [← e1] at hm hl
    exact hk4 (g0, g1) hm _ _ _ hI (lv_sub hl [2, 1, 0] rfl)
theorem r_Run_hutsAwake_4 {p : Program} {l : Launch} {e : Env} {s : State} {m : MethodId} {args : Array Value} {below : List Frame} {meth : Method} {c : Code} {G : zG} {K : Nat} (X : zX p s m args meth c "AllHome$Run" prog_6_method_7_code 3 (some .int) G (zA G K)) {r : Int32} (a0 : Nat) (h : zH) : ∀ (n : Nat) (w : Int32 × Int32), zloop (g_Run_hutsAwake_4 a0 h) n w = some r → ∀ (H : Heap) (locs : List Loc) (ls : Array Slot), zI G K s (zA G K) H locs h → lv_has ls 3 [(0, .ref (G.1 a0)), (1, .int w.1), (2, .int w.2)] → W p l e (zR 0) s m args below meth c H locs 0 0 (MQ below (zQi G K r h) args s 0 0 (zA G K)) (F0 m 4 ls []) := by
  intro n
  induction n with
  | zero => intro w hm; cases hm
  | succ n ih => intro w hm H locs ls hI hl; exact r_Run_hutsAwake_4_b X a0 h (zloop (g_Run_hutsAwake_4 a0 h) n) ih w (zls hm) hI hl
set_option maxHeartbeats 4000000 in
set_option maxRecDepth 100000 in
theorem r_Run_hutsAwake_0 {p : Program} {l : Launch} {e : Env} {s : State} {m : MethodId} {args : Array Value} {below : List Frame} {meth : Method} {c : Code} {G : zG} {K : Nat} (X : zX p s m args meth c "AllHome$Run" prog_6_method_7_code 3 (some .int) G (zA G K)) {r : Int32} (a0 : Nat) (h : zH) (hm : m_Run_hutsAwake a0 h = some r) {H : Heap} {locs : List Loc} {ls : Array Slot} (hI : zI G K s (zA G K) H locs h) (hl : lv_has ls 3 [(0, .ref (G.1 a0))]) : W p l e (zR 0) s m args below meth c H locs 0 0 (MQ below (zQi G K r h) args s 0 0 (zA G K)) (F0 m 0 ls []) := by
  obtain ⟨hx, hb, hml, hown, hts, hr, hlocks, hK, hST, hNs⟩ := id X
  unfold m_Run_hutsAwake at hm
  refine lv_iconst (v := (nI 0)) hx hb d_Run_hutsAwake_0 (by decide) ?_
  refine lv_istore_n (lv' := [(1, .int (nI 0)), (0, .ref (G.1 a0))]) hx hb d_Run_hutsAwake_1 rfl hl (by decide) rfl (fun ls hl => ?_)
  refine lv_iconst (v := (nI 0)) hx hb d_Run_hutsAwake_2 (by decide) ?_
  refine lv_istore_n (lv' := [(2, .int (nI 0)), (1, .int (nI 0)), (0, .ref (G.1 a0))]) hx hb d_Run_hutsAwake_3 rfl hl (by decide) rfl (fun ls hl => ?_)
  exact r_Run_hutsAwake_4 X a0 h zN ((nI 0), (nI 0)) hm _ _ _ hI (lv_sub hl [2, 1, 0] rfl)
set_option maxHeartbeats 4000000 in
set_option maxRecDepth 100000 in
theorem c_Run_hutsAwake (l : Launch) (G : zG) (K : Nat) (a0 : Nat) (h : zH) (r : Int32) (hm : m_Run_hutsAwake a0 h = some r) : zMi l G K y_Run_hutsAwake prog_6_method_7_code 3 0 [.ref (G.1 a0)] h r h := zMet (by decide +kernel) (Nat.le_of_ble_eq_true rfl) (fun p e s m below meth c ls X hI hl => r_Run_hutsAwake_0 X a0 h hm hI hl)
-- walk of AllHome$Run.tell
theorem d_Run_tell_0 : decode prog_6_method_6_code 0 = .ok (.iload_n 1, 1) := by decide +kernel
theorem d_Run_tell_1 : decode prog_6_method_6_code 1 = .ok (.tableswitch 140 0 10 #[59, 64, 69, 77, 85, 101, 109, 114, 122, 130, 135], 59) := by decide +kernel
theorem d_Run_tell_60 : decode prog_6_method_6_code 60 = .ok (.aload_n 0, 1) := by decide +kernel
theorem d_Run_tell_61 : decode prog_6_method_6_code 61 = .ok (.getfield 28, 3) := by decide +kernel
theorem d_Run_tell_64 : decode prog_6_method_6_code 64 = .ok (.ireturn, 1) := by decide +kernel
theorem d_Run_tell_65 : decode prog_6_method_6_code 65 = .ok (.aload_n 0, 1) := by decide +kernel
theorem d_Run_tell_66 : decode prog_6_method_6_code 66 = .ok (.getfield 32, 3) := by decide +kernel
theorem d_Run_tell_69 : decode prog_6_method_6_code 69 = .ok (.ireturn, 1) := by decide +kernel
theorem d_Run_tell_70 : decode prog_6_method_6_code 70 = .ok (.aload_n 0, 1) := by decide +kernel
theorem d_Run_tell_71 : decode prog_6_method_6_code 71 = .ok (.getfield 9, 3) := by decide +kernel
theorem d_Run_tell_74 : decode prog_6_method_6_code 74 = .ok (.bipush 18, 2) := by decide +kernel
theorem d_Run_tell_76 : decode prog_6_method_6_code 76 = .ok (.iaload, 1) := by decide +kernel
theorem d_Run_tell_77 : decode prog_6_method_6_code 77 = .ok (.ireturn, 1) := by decide +kernel
theorem d_Run_tell_78 : decode prog_6_method_6_code 78 = .ok (.aload_n 0, 1) := by decide +kernel
theorem d_Run_tell_79 : decode prog_6_method_6_code 79 = .ok (.getfield 9, 3) := by decide +kernel
theorem d_Run_tell_82 : decode prog_6_method_6_code 82 = .ok (.bipush 43, 2) := by decide +kernel
theorem d_Run_tell_84 : decode prog_6_method_6_code 84 = .ok (.iaload, 1) := by decide +kernel
theorem d_Run_tell_85 : decode prog_6_method_6_code 85 = .ok (.ireturn, 1) := by decide +kernel
theorem d_Run_tell_86 : decode prog_6_method_6_code 86 = .ok (.aload_n 0, 1) := by decide +kernel
theorem d_Run_tell_87 : decode prog_6_method_6_code 87 = .ok (.getfield 9, 3) := by decide +kernel
theorem d_Run_tell_90 : decode prog_6_method_6_code 90 = .ok (.invokestatic 56, 3) := by decide +kernel
theorem d_Run_tell_93 : decode prog_6_method_6_code 93 = .ok (.ifCond .eq 7, 3) := by decide +kernel
theorem d_Run_tell_96 : decode prog_6_method_6_code 96 = .ok (.iconst 1, 1) := by decide +kernel
theorem d_Run_tell_97 : decode prog_6_method_6_code 97 = .ok (.goto 4, 3) := by decide +kernel
theorem d_Run_tell_100 : decode prog_6_method_6_code 100 = .ok (.iconst 0, 1) := by decide +kernel
theorem d_Run_tell_101 : decode prog_6_method_6_code 101 = .ok (.ireturn, 1) := by decide +kernel
theorem d_Run_tell_102 : decode prog_6_method_6_code 102 = .ok (.aload_n 0, 1) := by decide +kernel
theorem d_Run_tell_103 : decode prog_6_method_6_code 103 = .ok (.getfield 9, 3) := by decide +kernel
theorem d_Run_tell_106 : decode prog_6_method_6_code 106 = .ok (.bipush 120, 2) := by decide +kernel
theorem d_Run_tell_108 : decode prog_6_method_6_code 108 = .ok (.iaload, 1) := by decide +kernel
theorem d_Run_tell_109 : decode prog_6_method_6_code 109 = .ok (.ireturn, 1) := by decide +kernel
theorem d_Run_tell_110 : decode prog_6_method_6_code 110 = .ok (.aload_n 0, 1) := by decide +kernel
theorem d_Run_tell_111 : decode prog_6_method_6_code 111 = .ok (.invokevirtual 60, 3) := by decide +kernel
theorem d_Run_tell_114 : decode prog_6_method_6_code 114 = .ok (.ireturn, 1) := by decide +kernel
theorem d_Run_tell_115 : decode prog_6_method_6_code 115 = .ok (.aload_n 0, 1) := by decide +kernel
theorem d_Run_tell_116 : decode prog_6_method_6_code 116 = .ok (.getfield 9, 3) := by decide +kernel
theorem d_Run_tell_119 : decode prog_6_method_6_code 119 = .ok (.bipush 121, 2) := by decide +kernel
theorem d_Run_tell_121 : decode prog_6_method_6_code 121 = .ok (.iaload, 1) := by decide +kernel
theorem d_Run_tell_122 : decode prog_6_method_6_code 122 = .ok (.ireturn, 1) := by decide +kernel
theorem d_Run_tell_123 : decode prog_6_method_6_code 123 = .ok (.aload_n 0, 1) := by decide +kernel
theorem d_Run_tell_124 : decode prog_6_method_6_code 124 = .ok (.getfield 9, 3) := by decide +kernel
theorem d_Run_tell_127 : decode prog_6_method_6_code 127 = .ok (.bipush 122, 2) := by decide +kernel
theorem d_Run_tell_129 : decode prog_6_method_6_code 129 = .ok (.iaload, 1) := by decide +kernel
theorem d_Run_tell_130 : decode prog_6_method_6_code 130 = .ok (.ireturn, 1) := by decide +kernel
theorem d_Run_tell_131 : decode prog_6_method_6_code 131 = .ok (.aload_n 0, 1) := by decide +kernel
theorem d_Run_tell_132 : decode prog_6_method_6_code 132 = .ok (.getfield 35, 3) := by decide +kernel
theorem d_Run_tell_135 : decode prog_6_method_6_code 135 = .ok (.ireturn, 1) := by decide +kernel
theorem d_Run_tell_136 : decode prog_6_method_6_code 136 = .ok (.aload_n 0, 1) := by decide +kernel
theorem d_Run_tell_137 : decode prog_6_method_6_code 137 = .ok (.getfield 38, 3) := by decide +kernel
theorem d_Run_tell_140 : decode prog_6_method_6_code 140 = .ok (.ireturn, 1) := by decide +kernel
theorem d_Run_tell_141 : decode prog_6_method_6_code 141 = .ok (.iconst (-1), 1) := by decide +kernel
theorem d_Run_tell_142 : decode prog_6_method_6_code 142 = .ok (.ireturn, 1) := by decide +kernel
set_option maxHeartbeats 4000000 in
set_option maxRecDepth 100000 in
theorem r_Run_tell_0 {p : Program} {l : Launch} {e : Env} {s : State} {m : MethodId} {args : Array Value} {below : List Frame} {meth : Method} {c : Code} {G : zG} {K : Nat} (X : zX p s m args meth c "AllHome$Run" prog_6_method_6_code 2 (some .int) G (zA G K)) {r : Int32} (a0 : Nat) (x1 : Int32) (h : zH) (hm : m_Run_tell a0 x1 h = some r) {H : Heap} {locs : List Loc} {ls : Array Slot} (hI : zI G K s (zA G K) H locs h) (hl : lv_has ls 2 [(0, .ref (G.1 a0)), (1, .int x1)]) : W p l e (zR 1) s m args below meth c H locs 0 0 (MQ below (zQi G K r h) args s 0 0 (zA G K)) (F0 m 0 ls []) := by
  obtain ⟨hx, hb, hml, hown, hts, hr, hlocks, hK, hST, hNs⟩ := id X
  unfold m_Run_tell at hm
  refine lv_iload_n hx hb d_Run_tell_0 rfl (lv_at hl 1 rfl) ?_
  by_cases hs1_0 : x1 = (nI 0)
  · replace hm := zif_t hs1_0 hm
    refine lv_tableIn (off := 59) (tgt := 60) hx hb d_Run_tell_1 (by rw [hs1_0]; decide) (by rw [hs1_0]; decide) (by rw [hs1_0]; rfl) (by decide) ?_
    refine lv_aload_n hx hb d_Run_tell_60 rfl (lv_at hl 0 rfl) ?_
    obtain ⟨v61, hv, hm⟩ := zbd hm
    refine z_getI X hI F_Run_28 hv d_Run_tell_61 ?_
    obtain rfl := zs1 hm
    exact z_iret X hI d_Run_tell_64
  · replace hm := zif_f hs1_0 hm
    by_cases hs1_1 : x1 = (nI 1)
    · replace hm := zif_t hs1_1 hm
      refine lv_tableIn (off := 64) (tgt := 65) hx hb d_Run_tell_1 (by rw [hs1_1]; decide) (by rw [hs1_1]; decide) (by rw [hs1_1]; rfl) (by decide) ?_
      refine lv_aload_n hx hb d_Run_tell_65 rfl (lv_at hl 0 rfl) ?_
      obtain ⟨v66, hv, hm⟩ := zbd hm
      refine z_getI X hI F_Run_32 hv d_Run_tell_66 ?_
      obtain rfl := zs1 hm
      exact z_iret X hI d_Run_tell_69
    · replace hm := zif_f hs1_1 hm
      by_cases hs1_2 : x1 = (nI 2)
      · replace hm := zif_t hs1_2 hm
        refine lv_tableIn (off := 69) (tgt := 70) hx hb d_Run_tell_1 (by rw [hs1_2]; decide) (by rw [hs1_2]; decide) (by rw [hs1_2]; rfl) (by decide) ?_
        refine lv_aload_n hx hb d_Run_tell_70 rfl (lv_at hl 0 rfl) ?_
        obtain ⟨v71, hv, hm⟩ := zbd hm
        refine z_getR X hI F_Run_9 hv d_Run_tell_71 ?_
        refine lv_bipush (v := (nI 18)) hx hb d_Run_tell_74 (by decide) ?_
        obtain ⟨v76, hv, hm⟩ := zbd hm
        refine z_iald X hI hv d_Run_tell_76 ?_
        obtain rfl := zs1 hm
        exact z_iret X hI d_Run_tell_77
      · replace hm := zif_f hs1_2 hm
        by_cases hs1_3 : x1 = (nI 3)
        · replace hm := zif_t hs1_3 hm
          refine lv_tableIn (off := 77) (tgt := 78) hx hb d_Run_tell_1 (by rw [hs1_3]; decide) (by rw [hs1_3]; decide) (by rw [hs1_3]; rfl) (by decide) ?_
          refine lv_aload_n hx hb d_Run_tell_78 rfl (lv_at hl 0 rfl) ?_
          obtain ⟨v79, hv, hm⟩ := zbd hm
          refine z_getR X hI F_Run_9 hv d_Run_tell_79 ?_
          refine lv_bipush (v := (nI 43)) hx hb d_Run_tell_82 (by decide) ?_
          obtain ⟨v84, hv, hm⟩ := zbd hm
          refine z_iald X hI hv d_Run_tell_84 ?_
          obtain rfl := zs1 hm
          exact z_iret X hI d_Run_tell_85
        · replace hm := zif_f hs1_3 hm
          by_cases hs1_4 : x1 = (nI 4)
          · replace hm := zif_t hs1_4 hm
            refine lv_tableIn (off := 85) (tgt := 86) hx hb d_Run_tell_1 (by rw [hs1_4]; decide) (by rw [hs1_4]; decide) (by rw [hs1_4]; rfl) (by decide) ?_
            refine lv_aload_n hx hb d_Run_tell_86 rfl (lv_at hl 0 rfl) ?_
            obtain ⟨v87, hv, hm⟩ := zbd hm
            refine z_getR X hI F_Run_9 hv d_Run_tell_87 ?_
            obtain ⟨v90, hv, hm⟩ := zbd hm
            refine z_ci hI (z_runN (As := [.ref (G.1 v87)]) (rest := []) X hI hl.1 (c_Home_isOver l G K v87 h _ hv) C_Run_56 rfl (Nat.le_of_ble_eq_true rfl) ⟨Nat.le_of_ble_eq_true rfl, Nat.le_of_ble_eq_true rfl, Nat.zero_le _, Nat.zero_le _⟩ rfl d_Run_tell_90) (fun H locs hI => ?_)
            refine lv_if_eq (tgt := 100) hx hb d_Run_tell_93 (by decide) (fun hc93 => ?_) (fun hc93 => ?_)
            · replace hm := zif_t hc93 hm
              refine lv_iconst (v := (nI 0)) hx hb d_Run_tell_100 (by decide) ?_
              obtain rfl := zs1 hm
              exact z_iret X hI d_Run_tell_101
            · replace hm := zif_f hc93 hm
              refine lv_iconst (v := (nI 1)) hx hb d_Run_tell_96 (by decide) ?_
              refine lv_goto (tgt := 101) hx hb d_Run_tell_97 (by decide) ?_
              obtain rfl := zs1 hm
              exact z_iret X hI d_Run_tell_101
          · replace hm := zif_f hs1_4 hm
            by_cases hs1_5 : x1 = (nI 5)
            · replace hm := zif_t hs1_5 hm
              refine lv_tableIn (off := 101) (tgt := 102) hx hb d_Run_tell_1 (by rw [hs1_5]; decide) (by rw [hs1_5]; decide) (by rw [hs1_5]; rfl) (by decide) ?_
              refine lv_aload_n hx hb d_Run_tell_102 rfl (lv_at hl 0 rfl) ?_
              obtain ⟨v103, hv, hm⟩ := zbd hm
              refine z_getR X hI F_Run_9 hv d_Run_tell_103 ?_
              refine lv_bipush (v := (nI 120)) hx hb d_Run_tell_106 (by decide) ?_
              obtain ⟨v108, hv, hm⟩ := zbd hm
              refine z_iald X hI hv d_Run_tell_108 ?_
              obtain rfl := zs1 hm
              exact z_iret X hI d_Run_tell_109
            · replace hm := zif_f hs1_5 hm
              by_cases hs1_6 : x1 = (nI 6)
              · replace hm := zif_t hs1_6 hm
                refine lv_tableIn (off := 109) (tgt := 110) hx hb d_Run_tell_1 (by rw [hs1_6]; decide) (by rw [hs1_6]; decide) (by rw [hs1_6]; rfl) (by decide) ?_
                refine lv_aload_n hx hb d_Run_tell_110 rfl (lv_at hl 0 rfl) ?_
                obtain ⟨v111, hv, hm⟩ := zbd hm
                obtain ⟨hq, hv⟩ := zcv_at hv
                refine z_ci hI (z_runV (As := []) (rest := []) X hI hl.1 (c_Run_hutsAwake l G K a0 h _ hv) C_Run_60 rfl hq (Nat.le_of_ble_eq_true rfl) ⟨Nat.le_of_ble_eq_true rfl, Nat.le_of_ble_eq_true rfl, Nat.zero_le _, Nat.zero_le _⟩ rfl d_Run_tell_111) (fun H locs hI => ?_)
                obtain rfl := zs1 hm
                exact z_iret X hI d_Run_tell_114
              · replace hm := zif_f hs1_6 hm
                by_cases hs1_7 : x1 = (nI 7)
                · replace hm := zif_t hs1_7 hm
                  refine lv_tableIn (off := 114) (tgt := 115) hx hb d_Run_tell_1 (by rw [hs1_7]; decide) (by rw [hs1_7]; decide) (by rw [hs1_7]; rfl) (by decide) ?_
                  refine lv_aload_n hx hb d_Run_tell_115 rfl (lv_at hl 0 rfl) ?_
                  obtain ⟨v116, hv, hm⟩ := zbd hm
                  refine z_getR X hI F_Run_9 hv d_Run_tell_116 ?_
                  refine lv_bipush (v := (nI 121)) hx hb d_Run_tell_119 (by decide) ?_
                  obtain ⟨v121, hv, hm⟩ := zbd hm
                  refine z_iald X hI hv d_Run_tell_121 ?_
                  obtain rfl := zs1 hm
                  exact z_iret X hI d_Run_tell_122
                · replace hm := zif_f hs1_7 hm
                  by_cases hs1_8 : x1 = (nI 8)
                  · replace hm := zif_t hs1_8 hm
                    refine lv_tableIn (off := 122) (tgt := 123) hx hb d_Run_tell_1 (by rw [hs1_8]; decide) (by rw [hs1_8]; decide) (by rw [hs1_8]; rfl) (by decide) ?_
                    refine lv_aload_n hx hb d_Run_tell_123 rfl (lv_at hl 0 rfl) ?_
                    obtain ⟨v124, hv, hm⟩ := zbd hm
                    refine z_getR X hI F_Run_9 hv d_Run_tell_124 ?_
                    refine lv_bipush (v := (nI 122)) hx hb d_Run_tell_127 (by decide) ?_
                    obtain ⟨v129, hv, hm⟩ := zbd hm
                    refine z_iald X hI hv d_Run_tell_129 ?_
                    obtain rfl := zs1 hm
                    exact z_iret X hI d_Run_tell_130
                  · replace hm := zif_f hs1_8 hm
                    by_cases hs1_9 : x1 = (nI 9)
                    · replace hm := zif_t hs1_9 hm
                      refine lv_tableIn (off := 130) (tgt := 131) hx hb d_Run_tell_1 (by rw [hs1_9]; decide) (by rw [hs1_9]; decide) (by rw [hs1_9]; rfl) (by decide) ?_
                      refine lv_aload_n hx hb d_Run_tell_131 rfl (lv_at hl 0 rfl) ?_
                      obtain ⟨v132, hv, hm⟩ := zbd hm
                      refine z_getI X hI F_Run_35 hv d_Run_tell_132 ?_
                      obtain rfl := zs1 hm
                      exact z_iret X hI d_Run_tell_135
                    · replace hm := zif_f hs1_9 hm
                      by_cases hs1_10 : x1 = (nI 10)
                      · replace hm := zif_t hs1_10 hm
                        refine lv_tableIn (off := 135) (tgt := 136) hx hb d_Run_tell_1 (by rw [hs1_10]; decide) (by rw [hs1_10]; decide) (by rw [hs1_10]; rfl) (by decide) ?_
                        refine lv_aload_n hx hb d_Run_tell_136 rfl (lv_at hl 0 rfl) ?_
                        obtain ⟨v137, hv, hm⟩ := zbd hm
                        refine z_getI X hI F_Run_38 hv d_Run_tell_137 ?_
                        obtain rfl := zs1 hm
                        exact z_iret X hI d_Run_tell_140
                      · replace hm := zif_f hs1_10 hm
                        have he0 : (x1).toInt ≠ 0 := fun q => hs1_0 (Int32.toInt_inj.mp (q.trans (by decide)))
                        have he1 : (x1).toInt ≠ 1 := fun q => hs1_1 (Int32.toInt_inj.mp (q.trans (by decide)))
                        have he2 : (x1).toInt ≠ 2 := fun q => hs1_2 (Int32.toInt_inj.mp (q.trans (by decide)))
                        have he3 : (x1).toInt ≠ 3 := fun q => hs1_3 (Int32.toInt_inj.mp (q.trans (by decide)))
                        have he4 : (x1).toInt ≠ 4 := fun q => hs1_4 (Int32.toInt_inj.mp (q.trans (by decide)))
                        have he5 : (x1).toInt ≠ 5 := fun q => hs1_5 (Int32.toInt_inj.mp (q.trans (by decide)))
                        have he6 : (x1).toInt ≠ 6 := fun q => hs1_6 (Int32.toInt_inj.mp (q.trans (by decide)))
                        have he7 : (x1).toInt ≠ 7 := fun q => hs1_7 (Int32.toInt_inj.mp (q.trans (by decide)))
                        have he8 : (x1).toInt ≠ 8 := fun q => hs1_8 (Int32.toInt_inj.mp (q.trans (by decide)))
                        have he9 : (x1).toInt ≠ 9 := fun q => hs1_9 (Int32.toInt_inj.mp (q.trans (by decide)))
                        have he10 : (x1).toInt ≠ 10 := fun q => hs1_10 (Int32.toInt_inj.mp (q.trans (by decide)))
                        refine lv_tableOut (tgt := 141) hx hb d_Run_tell_1 (by omega) (by decide) ?_
                        refine lv_iconst (v := (-1 : Int32)) hx hb d_Run_tell_141 (by decide) ?_
                        obtain rfl := zs1 hm
                        exact z_iret X hI d_Run_tell_142
set_option maxHeartbeats 4000000 in
set_option maxRecDepth 100000 in
theorem c_Run_tell (l : Launch) (G : zG) (K : Nat) (a0 : Nat) (x1 : Int32) (h : zH) (r : Int32) (hm : m_Run_tell a0 x1 h = some r) : zMi l G K y_Run_tell prog_6_method_6_code 2 1 [.ref (G.1 a0), .int x1] h r h := zMet (by decide +kernel) (Nat.le_of_ble_eq_true rfl) (fun p e s m below meth c ls X hI hl => r_Run_tell_0 X a0 x1 h hm hI hl)
-- walk of AllHome.ofRun
theorem d_Home_ofRun_0 : decode prog_1_method_11_code 0 = .ok (.aload_n 0, 1) := by decide +kernel
theorem d_Home_ofRun_1 : decode prog_1_method_11_code 1 = .ok (.iload_n 1, 1) := by decide +kernel
theorem d_Home_ofRun_2 : decode prog_1_method_11_code 2 = .ok (.invokevirtual 106, 3) := by decide +kernel
theorem d_Home_ofRun_5 : decode prog_1_method_11_code 5 = .ok (.ifCond .eq 16, 3) := by decide +kernel
theorem d_Home_ofRun_8 : decode prog_1_method_11_code 8 = .ok (.aload_n 0, 1) := by decide +kernel
theorem d_Home_ofRun_9 : decode prog_1_method_11_code 9 = .ok (.getfield 25, 3) := by decide +kernel
theorem d_Home_ofRun_12 : decode prog_1_method_11_code 12 = .ok (.iload_n 1, 1) := by decide +kernel
theorem d_Home_ofRun_13 : decode prog_1_method_11_code 13 = .ok (.aaload, 1) := by decide +kernel
theorem d_Home_ofRun_14 : decode prog_1_method_11_code 14 = .ok (.iload_n 2, 1) := by decide +kernel
theorem d_Home_ofRun_15 : decode prog_1_method_11_code 15 = .ok (.invokevirtual 130, 3) := by decide +kernel
theorem d_Home_ofRun_18 : decode prog_1_method_11_code 18 = .ok (.goto 4, 3) := by decide +kernel
theorem d_Home_ofRun_21 : decode prog_1_method_11_code 21 = .ok (.iconst (-1), 1) := by decide +kernel
theorem d_Home_ofRun_22 : decode prog_1_method_11_code 22 = .ok (.ireturn, 1) := by decide +kernel
set_option maxHeartbeats 4000000 in
set_option maxRecDepth 100000 in
theorem r_Home_ofRun_0 {p : Program} {l : Launch} {e : Env} {s : State} {m : MethodId} {args : Array Value} {below : List Frame} {meth : Method} {c : Code} {G : zG} {K : Nat} (X : zX p s m args meth c "AllHome" prog_1_method_11_code 3 (some .int) G (zA G K)) {r : Int32} (a0 : Nat) (x1 : Int32) (x2 : Int32) (h : zH) (hm : m_Home_ofRun a0 x1 x2 h = some r) {H : Heap} {locs : List Loc} {ls : Array Slot} (hI : zI G K s (zA G K) H locs h) (hl : lv_has ls 3 [(0, .ref (G.1 a0)), (1, .int x1), (2, .int x2)]) : W p l e (zR 2) s m args below meth c H locs 0 0 (MQ below (zQi G K r h) args s 0 0 (zA G K)) (F0 m 0 ls []) := by
  obtain ⟨hx, hb, hml, hown, hts, hr, hlocks, hK, hST, hNs⟩ := id X
  unfold m_Home_ofRun at hm
  refine lv_aload_n hx hb d_Home_ofRun_0 rfl (lv_at hl 0 rfl) ?_
  refine lv_iload_n hx hb d_Home_ofRun_1 rfl (lv_at hl 1 rfl) ?_
  obtain ⟨v2, hv, hm⟩ := zbd hm
  obtain ⟨hq, hv⟩ := zcv_at hv
  refine z_ci hI (z_runV (As := [.int x1]) (rest := []) X hI hl.1 (c_Home_isRun l G K a0 x1 h _ hv) C_Home_106 rfl hq (Nat.le_of_ble_eq_true rfl) ⟨Nat.le_of_ble_eq_true rfl, Nat.le_of_ble_eq_true rfl, Nat.zero_le _, Nat.zero_le _⟩ rfl d_Home_ofRun_2) (fun H locs hI => ?_)
  refine lv_if_eq (tgt := 21) hx hb d_Home_ofRun_5 (by decide) (fun hc5 => ?_) (fun hc5 => ?_)
  · replace hm := zif_t hc5 hm
    refine lv_iconst (v := (-1 : Int32)) hx hb d_Home_ofRun_21 (by decide) ?_
    obtain rfl := zs1 hm
    exact z_iret X hI d_Home_ofRun_22
  · replace hm := zif_f hc5 hm
    refine lv_aload_n hx hb d_Home_ofRun_8 rfl (lv_at hl 0 rfl) ?_
    obtain ⟨v9, hv, hm⟩ := zbd hm
    refine z_getR X hI F_Home_25 hv d_Home_ofRun_9 ?_
    refine lv_iload_n hx hb d_Home_ofRun_12 rfl (lv_at hl 1 rfl) ?_
    obtain ⟨v13, hv, hm⟩ := zbd hm
    refine z_aald X hI 3 (.object "AllHome$Run") rfl rfl hv d_Home_ofRun_13 ?_
    refine lv_iload_n hx hb d_Home_ofRun_14 rfl (lv_at hl 2 rfl) ?_
    obtain ⟨v15, hv, hm⟩ := zbd hm
    obtain ⟨hq, hv⟩ := zcv_at hv
    refine z_ci hI (z_runV (As := [.int x2]) (rest := []) X hI hl.1 (c_Run_tell l G K v13 x2 h _ hv) C_Home_130 rfl hq (Nat.le_of_ble_eq_true rfl) ⟨Nat.le_of_ble_eq_true rfl, Nat.le_of_ble_eq_true rfl, Nat.zero_le _, Nat.zero_le _⟩ rfl d_Home_ofRun_15) (fun H locs hI => ?_)
    refine lv_goto (tgt := 22) hx hb d_Home_ofRun_18 (by decide) ?_
    obtain rfl := zs1 hm
    exact z_iret X hI d_Home_ofRun_22
set_option maxHeartbeats 4000000 in
set_option maxRecDepth 100000 in
theorem c_Home_ofRun (l : Launch) (G : zG) (K : Nat) (a0 : Nat) (x1 : Int32) (x2 : Int32) (h : zH) (r : Int32) (hm : m_Home_ofRun a0 x1 x2 h = some r) : zMi l G K y_Home_ofRun prog_1_method_11_code 3 2 [.ref (G.1 a0), .int x1, .int x2] h r h := zMet (by decide +kernel) (Nat.le_of_ble_eq_true rfl) (fun p e s m below meth c ls X hI hl => r_Home_ofRun_0 X a0 x1 x2 h hm hI hl)
-- walk of AllHome$Rules.family
theorem d_Rules_family_0 : decode prog_5_method_2_code 0 = .ok (.aload_n 0, 1) := by decide +kernel
theorem d_Rules_family_1 : decode prog_5_method_2_code 1 = .ok (.getfield 15, 3) := by decide +kernel
theorem d_Rules_family_4 : decode prog_5_method_2_code 4 = .ok (.ireturn, 1) := by decide +kernel
set_option maxHeartbeats 4000000 in
set_option maxRecDepth 100000 in
theorem r_Rules_family_0 {p : Program} {l : Launch} {e : Env} {s : State} {m : MethodId} {args : Array Value} {below : List Frame} {meth : Method} {c : Code} {G : zG} {K : Nat} (X : zX p s m args meth c "AllHome$Rules" prog_5_method_2_code 1 (some .int) G (zA G K)) {r : Int32} (a0 : Nat) (h : zH) (hm : m_Rules_family a0 h = some r) {H : Heap} {locs : List Loc} {ls : Array Slot} (hI : zI G K s (zA G K) H locs h) (hl : lv_has ls 1 [(0, .ref (G.1 a0))]) : W p l e (zR 0) s m args below meth c H locs 0 0 (MQ below (zQi G K r h) args s 0 0 (zA G K)) (F0 m 0 ls []) := by
  obtain ⟨hx, hb, hml, hown, hts, hr, hlocks, hK, hST, hNs⟩ := id X
  unfold m_Rules_family at hm
  refine lv_aload_n hx hb d_Rules_family_0 rfl (lv_at hl 0 rfl) ?_
  obtain ⟨v1, hv, hm⟩ := zbd hm
  refine z_getI X hI F_Rules_15 hv d_Rules_family_1 ?_
  obtain rfl := zs1 hm
  exact z_iret X hI d_Rules_family_4
set_option maxHeartbeats 4000000 in
set_option maxRecDepth 100000 in
theorem c_Rules_family (l : Launch) (G : zG) (K : Nat) (a0 : Nat) (h : zH) (r : Int32) (hm : m_Rules_family a0 h = some r) : zMi l G K y_Rules_family prog_5_method_2_code 1 0 [.ref (G.1 a0)] h r h := zMet (by decide +kernel) (Nat.le_of_ble_eq_true rfl) (fun p e s m below meth c ls X hI hl => r_Rules_family_0 X a0 h hm hI hl)
-- walk of AllHome$Run.family
theorem d_Run_family_0 : decode prog_6_method_3_code 0 = .ok (.aload_n 0, 1) := by decide +kernel
theorem d_Run_family_1 : decode prog_6_method_3_code 1 = .ok (.getfield 20, 3) := by decide +kernel
theorem d_Run_family_4 : decode prog_6_method_3_code 4 = .ok (.invokevirtual 41, 3) := by decide +kernel
theorem d_Run_family_7 : decode prog_6_method_3_code 7 = .ok (.ireturn, 1) := by decide +kernel
set_option maxHeartbeats 4000000 in
set_option maxRecDepth 100000 in
theorem r_Run_family_0 {p : Program} {l : Launch} {e : Env} {s : State} {m : MethodId} {args : Array Value} {below : List Frame} {meth : Method} {c : Code} {G : zG} {K : Nat} (X : zX p s m args meth c "AllHome$Run" prog_6_method_3_code 1 (some .int) G (zA G K)) {r : Int32} (a0 : Nat) (h : zH) (hm : m_Run_family a0 h = some r) {H : Heap} {locs : List Loc} {ls : Array Slot} (hI : zI G K s (zA G K) H locs h) (hl : lv_has ls 1 [(0, .ref (G.1 a0))]) : W p l e (zR 1) s m args below meth c H locs 0 0 (MQ below (zQi G K r h) args s 0 0 (zA G K)) (F0 m 0 ls []) := by
  obtain ⟨hx, hb, hml, hown, hts, hr, hlocks, hK, hST, hNs⟩ := id X
  unfold m_Run_family at hm
  refine lv_aload_n hx hb d_Run_family_0 rfl (lv_at hl 0 rfl) ?_
  obtain ⟨v1, hv, hm⟩ := zbd hm
  refine z_getR X hI F_Run_20 hv d_Run_family_1 ?_
  obtain ⟨v4, hv, hm⟩ := zbd hm
  obtain ⟨hq, hv⟩ := zcv_at hv
  refine z_ci hI (z_runV (As := []) (rest := []) X hI hl.1 (c_Rules_family l G K v1 h _ hv) C_Run_41 rfl hq (Nat.le_of_ble_eq_true rfl) ⟨Nat.le_of_ble_eq_true rfl, Nat.le_of_ble_eq_true rfl, Nat.zero_le _, Nat.zero_le _⟩ rfl d_Run_family_4) (fun H locs hI => ?_)
  obtain rfl := zs1 hm
  exact z_iret X hI d_Run_family_7
set_option maxHeartbeats 4000000 in
set_option maxRecDepth 100000 in
theorem c_Run_family (l : Launch) (G : zG) (K : Nat) (a0 : Nat) (h : zH) (r : Int32) (hm : m_Run_family a0 h = some r) : zMi l G K y_Run_family prog_6_method_3_code 1 1 [.ref (G.1 a0)] h r h := zMet (by decide +kernel) (Nat.le_of_ble_eq_true rfl) (fun p e s m below meth c ls X hI hl => r_Run_family_0 X a0 h hm hI hl)
-- walk of AllHome$Run.cell
theorem d_Run_cell_0 : decode prog_6_method_4_code 0 = .ok (.iload_n 1, 1) := by decide +kernel
theorem d_Run_cell_1 : decode prog_6_method_4_code 1 = .ok (.ifCond .lt 18, 3) := by decide +kernel
theorem d_Run_cell_4 : decode prog_6_method_4_code 4 = .ok (.iload_n 1, 1) := by decide +kernel
theorem d_Run_cell_5 : decode prog_6_method_4_code 5 = .ok (.bipush 123, 2) := by decide +kernel
theorem d_Run_cell_7 : decode prog_6_method_4_code 7 = .ok (.if_icmp .ge 12, 3) := by decide +kernel
theorem d_Run_cell_10 : decode prog_6_method_4_code 10 = .ok (.aload_n 0, 1) := by decide +kernel
theorem d_Run_cell_11 : decode prog_6_method_4_code 11 = .ok (.getfield 9, 3) := by decide +kernel
theorem d_Run_cell_14 : decode prog_6_method_4_code 14 = .ok (.iload_n 1, 1) := by decide +kernel
theorem d_Run_cell_15 : decode prog_6_method_4_code 15 = .ok (.iaload, 1) := by decide +kernel
theorem d_Run_cell_16 : decode prog_6_method_4_code 16 = .ok (.goto 5, 3) := by decide +kernel
theorem d_Run_cell_19 : decode prog_6_method_4_code 19 = .ok (.ldc 45, 2) := by decide +kernel
theorem d_Run_cell_21 : decode prog_6_method_4_code 21 = .ok (.ireturn, 1) := by decide +kernel
set_option maxHeartbeats 4000000 in
set_option maxRecDepth 100000 in
theorem r_Run_cell_0 {p : Program} {l : Launch} {e : Env} {s : State} {m : MethodId} {args : Array Value} {below : List Frame} {meth : Method} {c : Code} {G : zG} {K : Nat} (X : zX p s m args meth c "AllHome$Run" prog_6_method_4_code 2 (some .int) G (zA G K)) {r : Int32} (a0 : Nat) (x1 : Int32) (h : zH) (hm : m_Run_cell a0 x1 h = some r) {H : Heap} {locs : List Loc} {ls : Array Slot} (hI : zI G K s (zA G K) H locs h) (hl : lv_has ls 2 [(0, .ref (G.1 a0)), (1, .int x1)]) : W p l e (zR 0) s m args below meth c H locs 0 0 (MQ below (zQi G K r h) args s 0 0 (zA G K)) (F0 m 0 ls []) := by
  obtain ⟨hx, hb, hml, hown, hts, hr, hlocks, hK, hST, hNs⟩ := id X
  unfold m_Run_cell at hm
  refine lv_iload_n hx hb d_Run_cell_0 rfl (lv_at hl 1 rfl) ?_
  refine lv_if_lt (tgt := 19) hx hb d_Run_cell_1 (by decide) (fun hc1 => ?_) (fun hc1 => ?_)
  · replace hm := zif_t hc1 hm
    refine lv_ldc hx hb hown (hts _ kw444) d_Run_cell_19 ?_
    obtain rfl := zs1 hm
    exact z_iret X hI d_Run_cell_21
  · replace hm := zif_f hc1 hm
    refine lv_iload_n hx hb d_Run_cell_4 rfl (lv_at hl 1 rfl) ?_
    refine lv_bipush (v := (nI 123)) hx hb d_Run_cell_5 (by decide) ?_
    refine lv_icmp_ge (tgt := 19) hx hb d_Run_cell_7 (by decide) (fun hc7 => ?_) (fun hc7 => ?_)
    · replace hm := zif_t hc7 hm
      refine lv_ldc hx hb hown (hts _ kw444) d_Run_cell_19 ?_
      obtain rfl := zs1 hm
      exact z_iret X hI d_Run_cell_21
    · replace hm := zif_f hc7 hm
      refine lv_aload_n hx hb d_Run_cell_10 rfl (lv_at hl 0 rfl) ?_
      obtain ⟨v11, hv, hm⟩ := zbd hm
      refine z_getR X hI F_Run_9 hv d_Run_cell_11 ?_
      refine lv_iload_n hx hb d_Run_cell_14 rfl (lv_at hl 1 rfl) ?_
      obtain ⟨v15, hv, hm⟩ := zbd hm
      refine z_iald X hI hv d_Run_cell_15 ?_
      refine lv_goto (tgt := 21) hx hb d_Run_cell_16 (by decide) ?_
      obtain rfl := zs1 hm
      exact z_iret X hI d_Run_cell_21
set_option maxHeartbeats 4000000 in
set_option maxRecDepth 100000 in
theorem c_Run_cell (l : Launch) (G : zG) (K : Nat) (a0 : Nat) (x1 : Int32) (h : zH) (r : Int32) (hm : m_Run_cell a0 x1 h = some r) : zMi l G K y_Run_cell prog_6_method_4_code 2 0 [.ref (G.1 a0), .int x1] h r h := zMet (by decide +kernel) (Nat.le_of_ble_eq_true rfl) (fun p e s m below meth c ls X hI hl => r_Run_cell_0 X a0 x1 h hm hI hl)
-- walk of AllHome.ofHut
theorem d_Home_ofHut_0 : decode prog_1_method_12_code 0 = .ok (.aload_n 0, 1) := by decide +kernel
theorem d_Home_ofHut_1 : decode prog_1_method_12_code 1 = .ok (.iload_n 1, 1) := by decide +kernel
theorem d_Home_ofHut_2 : decode prog_1_method_12_code 2 = .ok (.invokevirtual 106, 3) := by decide +kernel
theorem d_Home_ofHut_5 : decode prog_1_method_12_code 5 = .ok (.ifCond .eq 26, 3) := by decide +kernel
theorem d_Home_ofHut_8 : decode prog_1_method_12_code 8 = .ok (.aload_n 0, 1) := by decide +kernel
theorem d_Home_ofHut_9 : decode prog_1_method_12_code 9 = .ok (.getfield 16, 3) := by decide +kernel
theorem d_Home_ofHut_12 : decode prog_1_method_12_code 12 = .ok (.iload_n 2, 1) := by decide +kernel
theorem d_Home_ofHut_13 : decode prog_1_method_12_code 13 = .ok (.invokevirtual 77, 3) := by decide +kernel
theorem d_Home_ofHut_16 : decode prog_1_method_12_code 16 = .ok (.ifCond .eq 15, 3) := by decide +kernel
theorem d_Home_ofHut_19 : decode prog_1_method_12_code 19 = .ok (.iload_n 3, 1) := by decide +kernel
theorem d_Home_ofHut_20 : decode prog_1_method_12_code 20 = .ok (.ifCond .lt 11, 3) := by decide +kernel
theorem d_Home_ofHut_23 : decode prog_1_method_12_code 23 = .ok (.iload_n 3, 1) := by decide +kernel
theorem d_Home_ofHut_24 : decode prog_1_method_12_code 24 = .ok (.getstatic 133, 3) := by decide +kernel
theorem d_Home_ofHut_27 : decode prog_1_method_12_code 27 = .ok (.arraylength, 1) := by decide +kernel
theorem d_Home_ofHut_28 : decode prog_1_method_12_code 28 = .ok (.if_icmp .lt 6, 3) := by decide +kernel
theorem d_Home_ofHut_31 : decode prog_1_method_12_code 31 = .ok (.ldc 136, 2) := by decide +kernel
theorem d_Home_ofHut_33 : decode prog_1_method_12_code 33 = .ok (.ireturn, 1) := by decide +kernel
theorem d_Home_ofHut_34 : decode prog_1_method_12_code 34 = .ok (.getstatic 137, 3) := by decide +kernel
theorem d_Home_ofHut_37 : decode prog_1_method_12_code 37 = .ok (.iload_n 3, 1) := by decide +kernel
theorem d_Home_ofHut_38 : decode prog_1_method_12_code 38 = .ok (.iaload, 1) := by decide +kernel
theorem d_Home_ofHut_39 : decode prog_1_method_12_code 39 = .ok (.iconst (-1), 1) := by decide +kernel
theorem d_Home_ofHut_40 : decode prog_1_method_12_code 40 = .ok (.if_icmp .eq 23, 3) := by decide +kernel
theorem d_Home_ofHut_43 : decode prog_1_method_12_code 43 = .ok (.getstatic 137, 3) := by decide +kernel
theorem d_Home_ofHut_46 : decode prog_1_method_12_code 46 = .ok (.iload_n 3, 1) := by decide +kernel
theorem d_Home_ofHut_47 : decode prog_1_method_12_code 47 = .ok (.iaload, 1) := by decide +kernel
theorem d_Home_ofHut_48 : decode prog_1_method_12_code 48 = .ok (.aload_n 0, 1) := by decide +kernel
theorem d_Home_ofHut_49 : decode prog_1_method_12_code 49 = .ok (.getfield 25, 3) := by decide +kernel
theorem d_Home_ofHut_52 : decode prog_1_method_12_code 52 = .ok (.iload_n 1, 1) := by decide +kernel
theorem d_Home_ofHut_53 : decode prog_1_method_12_code 53 = .ok (.aaload, 1) := by decide +kernel
theorem d_Home_ofHut_54 : decode prog_1_method_12_code 54 = .ok (.invokevirtual 140, 3) := by decide +kernel
theorem d_Home_ofHut_57 : decode prog_1_method_12_code 57 = .ok (.if_icmp .eq 6, 3) := by decide +kernel
theorem d_Home_ofHut_60 : decode prog_1_method_12_code 60 = .ok (.ldc 136, 2) := by decide +kernel
theorem d_Home_ofHut_62 : decode prog_1_method_12_code 62 = .ok (.ireturn, 1) := by decide +kernel
theorem d_Home_ofHut_63 : decode prog_1_method_12_code 63 = .ok (.aload_n 0, 1) := by decide +kernel
theorem d_Home_ofHut_64 : decode prog_1_method_12_code 64 = .ok (.getfield 25, 3) := by decide +kernel
theorem d_Home_ofHut_67 : decode prog_1_method_12_code 67 = .ok (.iload_n 1, 1) := by decide +kernel
theorem d_Home_ofHut_68 : decode prog_1_method_12_code 68 = .ok (.aaload, 1) := by decide +kernel
theorem d_Home_ofHut_69 : decode prog_1_method_12_code 69 = .ok (.getstatic 133, 3) := by decide +kernel
theorem d_Home_ofHut_72 : decode prog_1_method_12_code 72 = .ok (.iload_n 3, 1) := by decide +kernel
theorem d_Home_ofHut_73 : decode prog_1_method_12_code 73 = .ok (.iaload, 1) := by decide +kernel
theorem d_Home_ofHut_74 : decode prog_1_method_12_code 74 = .ok (.iload_n 2, 1) := by decide +kernel
theorem d_Home_ofHut_75 : decode prog_1_method_12_code 75 = .ok (.iadd, 1) := by decide +kernel
theorem d_Home_ofHut_76 : decode prog_1_method_12_code 76 = .ok (.invokevirtual 143, 3) := by decide +kernel
theorem d_Home_ofHut_79 : decode prog_1_method_12_code 79 = .ok (.ireturn, 1) := by decide +kernel
set_option maxHeartbeats 4000000 in
set_option maxRecDepth 100000 in
theorem r_Home_ofHut_63 {p : Program} {l : Launch} {e : Env} {s : State} {m : MethodId} {args : Array Value} {below : List Frame} {meth : Method} {c : Code} {G : zG} {K : Nat} (X : zX p s m args meth c "AllHome" prog_1_method_12_code 4 (some .int) G (zA G K)) {r : Int32} (a0 : Nat) (x1 : Int32) (x2 : Int32) (x3 : Int32) (h : zH) (hm : g_Home_ofHut_63 a0 x1 x2 x3 h = some r) {H : Heap} {locs : List Loc} {ls : Array Slot} (hI : zI G K s (zA G K) H locs h) (hl : lv_has ls 4 [(0, .ref (G.1 a0)), (1, .int x1), (2, .int x2), (3, .int x3)]) : W p l e (zR 2) s m args below meth c H locs 0 0 (MQ below (zQi G K r h) args s 0 0 (zA G K)) (F0 m 63 ls []) := by
  obtain ⟨hx, hb, hml, hown, hts, hr, hlocks, hK, hST, hNs⟩ := id X
  unfold g_Home_ofHut_63 at hm
  refine lv_aload_n hx hb d_Home_ofHut_63 rfl (lv_at hl 0 rfl) ?_
  obtain ⟨v64, hv, hm⟩ := zbd hm
  refine z_getR X hI F_Home_25 hv d_Home_ofHut_64 ?_
  refine lv_iload_n hx hb d_Home_ofHut_67 rfl (lv_at hl 1 rfl) ?_
  obtain ⟨v68, hv, hm⟩ := zbd hm
  refine z_aald X hI 3 (.object "AllHome$Run") rfl rfl hv d_Home_ofHut_68 ?_
  refine z_gets X hI 2 (by decide) kw427 d_Home_ofHut_69 ?_
  refine lv_iload_n hx hb d_Home_ofHut_72 rfl (lv_at hl 3 rfl) ?_
  obtain ⟨v73, hv, hm⟩ := zbd hm
  refine z_tab X hI 2 (by decide) hv d_Home_ofHut_73 ?_
  refine lv_iload_n hx hb d_Home_ofHut_74 rfl (lv_at hl 2 rfl) ?_
  refine lv_iadd hx hb d_Home_ofHut_75 ?_
  obtain ⟨v76, hv, hm⟩ := zbd hm
  obtain ⟨hq, hv⟩ := zcv_at hv
  refine z_ci hI (z_runV (As := [.int (v73 + x2)]) (rest := []) X hI hl.1 (c_Run_cell l G K v68 (v73 + x2) h _ hv) C_Home_143 rfl hq (Nat.le_of_ble_eq_true rfl) ⟨Nat.le_of_ble_eq_true rfl, Nat.le_of_ble_eq_true rfl, Nat.zero_le _, Nat.zero_le _⟩ rfl d_Home_ofHut_76) (fun H locs hI => ?_)
  obtain rfl := zs1 hm
  exact z_iret X hI d_Home_ofHut_79
set_option maxHeartbeats 4000000 in
set_option maxRecDepth 100000 in
theorem r_Home_ofHut_0 {p : Program} {l : Launch} {e : Env} {s : State} {m : MethodId} {args : Array Value} {below : List Frame} {meth : Method} {c : Code} {G : zG} {K : Nat} (X : zX p s m args meth c "AllHome" prog_1_method_12_code 4 (some .int) G (zA G K)) {r : Int32} (a0 : Nat) (x1 : Int32) (x2 : Int32) (x3 : Int32) (h : zH) (hm : m_Home_ofHut a0 x1 x2 x3 h = some r) {H : Heap} {locs : List Loc} {ls : Array Slot} (hI : zI G K s (zA G K) H locs h) (hl : lv_has ls 4 [(0, .ref (G.1 a0)), (1, .int x1), (2, .int x2), (3, .int x3)]) : W p l e (zR 2) s m args below meth c H locs 0 0 (MQ below (zQi G K r h) args s 0 0 (zA G K)) (F0 m 0 ls []) := by
  obtain ⟨hx, hb, hml, hown, hts, hr, hlocks, hK, hST, hNs⟩ := id X
  unfold m_Home_ofHut at hm
  refine lv_aload_n hx hb d_Home_ofHut_0 rfl (lv_at hl 0 rfl) ?_
  refine lv_iload_n hx hb d_Home_ofHut_1 rfl (lv_at hl 1 rfl) ?_
  obtain ⟨v2, hv, hm⟩ := zbd hm
  obtain ⟨hq, hv⟩ := zcv_at hv
  refine z_ci hI (z_runV (As := [.int x1]) (rest := []) X hI hl.1 (c_Home_isRun l G K a0 x1 h _ hv) C_Home_106 rfl hq (Nat.le_of_ble_eq_true rfl) ⟨Nat.le_of_ble_eq_true rfl, Nat.le_of_ble_eq_true rfl, Nat.zero_le _, Nat.zero_le _⟩ rfl d_Home_ofHut_2) (fun H locs hI => ?_)
  refine lv_if_eq (tgt := 31) hx hb d_Home_ofHut_5 (by decide) (fun hc5 => ?_) (fun hc5 => ?_)
  · replace hm := zif_t hc5 hm
    refine lv_ldc hx hb hown (hts _ kw429) d_Home_ofHut_31 ?_
    obtain rfl := zs1 hm
    exact z_iret X hI d_Home_ofHut_33
  · replace hm := zif_f hc5 hm
    refine lv_aload_n hx hb d_Home_ofHut_8 rfl (lv_at hl 0 rfl) ?_
    obtain ⟨v9, hv, hm⟩ := zbd hm
    refine z_getR X hI F_Home_16 hv d_Home_ofHut_9 ?_
    refine lv_iload_n hx hb d_Home_ofHut_12 rfl (lv_at hl 2 rfl) ?_
    obtain ⟨v13, hv, hm⟩ := zbd hm
    obtain ⟨hq, hv⟩ := zcv_at hv
    refine z_ci hI (z_runV (As := [.int x2]) (rest := []) X hI hl.1 (c_Huts_has l G K v9 x2 h _ hv) C_Home_77 rfl hq (Nat.le_of_ble_eq_true rfl) ⟨Nat.le_of_ble_eq_true rfl, Nat.le_of_ble_eq_true rfl, Nat.zero_le _, Nat.zero_le _⟩ rfl d_Home_ofHut_13) (fun H locs hI => ?_)
    refine lv_if_eq (tgt := 31) hx hb d_Home_ofHut_16 (by decide) (fun hc16 => ?_) (fun hc16 => ?_)
    · replace hm := zif_t hc16 hm
      refine lv_ldc hx hb hown (hts _ kw429) d_Home_ofHut_31 ?_
      obtain rfl := zs1 hm
      exact z_iret X hI d_Home_ofHut_33
    · replace hm := zif_f hc16 hm
      refine lv_iload_n hx hb d_Home_ofHut_19 rfl (lv_at hl 3 rfl) ?_
      refine lv_if_lt (tgt := 31) hx hb d_Home_ofHut_20 (by decide) (fun hc20 => ?_) (fun hc20 => ?_)
      · replace hm := zif_t hc20 hm
        refine lv_ldc hx hb hown (hts _ kw429) d_Home_ofHut_31 ?_
        obtain rfl := zs1 hm
        exact z_iret X hI d_Home_ofHut_33
      · replace hm := zif_f hc20 hm
        refine lv_iload_n hx hb d_Home_ofHut_23 rfl (lv_at hl 3 rfl) ?_
        refine z_gets X hI 2 (by decide) kw427 d_Home_ofHut_24 ?_
        refine z_tlen (x := nI 11) X hI 2 (by decide) (by decide) d_Home_ofHut_27 ?_
        refine lv_icmp_lt (tgt := 34) hx hb d_Home_ofHut_28 (by decide) (fun hc28 => ?_) (fun hc28 => ?_)
        · replace hm := zif_t hc28 hm
          refine z_gets X hI 3 (by decide) kw430 d_Home_ofHut_34 ?_
          refine lv_iload_n hx hb d_Home_ofHut_37 rfl (lv_at hl 3 rfl) ?_
          obtain ⟨v38, hv, hm⟩ := zbd hm
          refine z_tab X hI 3 (by decide) hv d_Home_ofHut_38 ?_
          refine lv_iconst (v := (-1 : Int32)) hx hb d_Home_ofHut_39 (by decide) ?_
          refine lv_icmp_eq (tgt := 63) hx hb d_Home_ofHut_40 (by decide) (fun hc40 => ?_) (fun hc40 => ?_)
          · replace hm := zif_t hc40 hm
            exact r_Home_ofHut_63 X a0 x1 x2 x3 h hm hI (lv_sub hl [0, 1, 2, 3] rfl)
          · replace hm := zif_f hc40 hm
            refine z_gets X hI 3 (by decide) kw430 d_Home_ofHut_43 ?_
            refine lv_iload_n hx hb d_Home_ofHut_46 rfl (lv_at hl 3 rfl) ?_
            obtain ⟨v47, hv, hm⟩ := zbd hm
            refine z_tab X hI 3 (by decide) hv d_Home_ofHut_47 ?_
            refine lv_aload_n hx hb d_Home_ofHut_48 rfl (lv_at hl 0 rfl) ?_
            obtain ⟨v49, hv, hm⟩ := zbd hm
            refine z_getR X hI F_Home_25 hv d_Home_ofHut_49 ?_
            refine lv_iload_n hx hb d_Home_ofHut_52 rfl (lv_at hl 1 rfl) ?_
            obtain ⟨v53, hv, hm⟩ := zbd hm
            refine z_aald X hI 3 (.object "AllHome$Run") rfl rfl hv d_Home_ofHut_53 ?_
            obtain ⟨v54, hv, hm⟩ := zbd hm
            obtain ⟨hq, hv⟩ := zcv_at hv
            refine z_ci hI (z_runV (As := []) (rest := [.int v47]) X hI hl.1 (c_Run_family l G K v53 h _ hv) C_Home_140 rfl hq (Nat.le_of_ble_eq_true rfl) ⟨Nat.le_of_ble_eq_true rfl, Nat.le_of_ble_eq_true rfl, Nat.zero_le _, Nat.zero_le _⟩ rfl d_Home_ofHut_54) (fun H locs hI => ?_)
            refine lv_icmp_eq (tgt := 63) hx hb d_Home_ofHut_57 (by decide) (fun hc57 => ?_) (fun hc57 => ?_)
            · replace hm := zif_t hc57 hm
              exact r_Home_ofHut_63 X a0 x1 x2 x3 h hm hI (lv_sub hl [0, 1, 2, 3] rfl)
            · replace hm := zif_f hc57 hm
              refine lv_ldc hx hb hown (hts _ kw429) d_Home_ofHut_60 ?_
              obtain rfl := zs1 hm
              exact z_iret X hI d_Home_ofHut_62
        · replace hm := zif_f hc28 hm
          refine lv_ldc hx hb hown (hts _ kw429) d_Home_ofHut_31 ?_
          obtain rfl := zs1 hm
          exact z_iret X hI d_Home_ofHut_33
set_option maxHeartbeats 4000000 in
set_option maxRecDepth 100000 in
theorem c_Home_ofHut (l : Launch) (G : zG) (K : Nat) (a0 : Nat) (x1 : Int32) (x2 : Int32) (x3 : Int32) (h : zH) (r : Int32) (hm : m_Home_ofHut a0 x1 x2 x3 h = some r) : zMi l G K y_Home_ofHut prog_1_method_12_code 4 2 [.ref (G.1 a0), .int x1, .int x2, .int x3] h r h := zMet (by decide +kernel) (Nat.le_of_ble_eq_true rfl) (fun p e s m below meth c ls X hI hl => r_Home_ofHut_0 X a0 x1 x2 x3 h hm hI hl)
-- walk of AllHome.word
theorem d_Home_word_0 : decode prog_1_method_13_code 0 = .ok (.aload_n 0, 1) := by decide +kernel
theorem d_Home_word_1 : decode prog_1_method_13_code 1 = .ok (.iload_n 1, 1) := by decide +kernel
theorem d_Home_word_2 : decode prog_1_method_13_code 2 = .ok (.invokevirtual 106, 3) := by decide +kernel
theorem d_Home_word_5 : decode prog_1_method_13_code 5 = .ok (.ifCond .eq 22, 3) := by decide +kernel
theorem d_Home_word_8 : decode prog_1_method_13_code 8 = .ok (.iload_n 2, 1) := by decide +kernel
theorem d_Home_word_9 : decode prog_1_method_13_code 9 = .ok (.ifCond .lt 18, 3) := by decide +kernel
theorem d_Home_word_12 : decode prog_1_method_13_code 12 = .ok (.iload_n 2, 1) := by decide +kernel
theorem d_Home_word_13 : decode prog_1_method_13_code 13 = .ok (.aload_n 0, 1) := by decide +kernel
theorem d_Home_word_14 : decode prog_1_method_13_code 14 = .ok (.getfield 25, 3) := by decide +kernel
theorem d_Home_word_17 : decode prog_1_method_13_code 17 = .ok (.iload_n 1, 1) := by decide +kernel
theorem d_Home_word_18 : decode prog_1_method_13_code 18 = .ok (.aaload, 1) := by decide +kernel
theorem d_Home_word_19 : decode prog_1_method_13_code 19 = .ok (.bipush 18, 2) := by decide +kernel
theorem d_Home_word_21 : decode prog_1_method_13_code 21 = .ok (.invokevirtual 143, 3) := by decide +kernel
theorem d_Home_word_24 : decode prog_1_method_13_code 24 = .ok (.if_icmp .lt 5, 3) := by decide +kernel
theorem d_Home_word_27 : decode prog_1_method_13_code 27 = .ok (.iconst (-1), 1) := by decide +kernel
theorem d_Home_word_28 : decode prog_1_method_13_code 28 = .ok (.ireturn, 1) := by decide +kernel
theorem d_Home_word_29 : decode prog_1_method_13_code 29 = .ok (.iload_n 3, 1) := by decide +kernel
theorem d_Home_word_30 : decode prog_1_method_13_code 30 = .ok (.tableswitch 68 0 2 #[26, 40, 54], 26) := by decide +kernel
theorem d_Home_word_56 : decode prog_1_method_13_code 56 = .ok (.aload_n 0, 1) := by decide +kernel
theorem d_Home_word_57 : decode prog_1_method_13_code 57 = .ok (.getfield 25, 3) := by decide +kernel
theorem d_Home_word_60 : decode prog_1_method_13_code 60 = .ok (.iload_n 1, 1) := by decide +kernel
theorem d_Home_word_61 : decode prog_1_method_13_code 61 = .ok (.aaload, 1) := by decide +kernel
theorem d_Home_word_62 : decode prog_1_method_13_code 62 = .ok (.bipush 19, 2) := by decide +kernel
theorem d_Home_word_64 : decode prog_1_method_13_code 64 = .ok (.iload_n 2, 1) := by decide +kernel
theorem d_Home_word_65 : decode prog_1_method_13_code 65 = .ok (.iadd, 1) := by decide +kernel
theorem d_Home_word_66 : decode prog_1_method_13_code 66 = .ok (.invokevirtual 143, 3) := by decide +kernel
theorem d_Home_word_69 : decode prog_1_method_13_code 69 = .ok (.ireturn, 1) := by decide +kernel
theorem d_Home_word_70 : decode prog_1_method_13_code 70 = .ok (.aload_n 0, 1) := by decide +kernel
theorem d_Home_word_71 : decode prog_1_method_13_code 71 = .ok (.getfield 25, 3) := by decide +kernel
theorem d_Home_word_74 : decode prog_1_method_13_code 74 = .ok (.iload_n 1, 1) := by decide +kernel
theorem d_Home_word_75 : decode prog_1_method_13_code 75 = .ok (.aaload, 1) := by decide +kernel
theorem d_Home_word_76 : decode prog_1_method_13_code 76 = .ok (.bipush 27, 2) := by decide +kernel
theorem d_Home_word_78 : decode prog_1_method_13_code 78 = .ok (.iload_n 2, 1) := by decide +kernel
theorem d_Home_word_79 : decode prog_1_method_13_code 79 = .ok (.iadd, 1) := by decide +kernel
theorem d_Home_word_80 : decode prog_1_method_13_code 80 = .ok (.invokevirtual 143, 3) := by decide +kernel
theorem d_Home_word_83 : decode prog_1_method_13_code 83 = .ok (.ireturn, 1) := by decide +kernel
theorem d_Home_word_84 : decode prog_1_method_13_code 84 = .ok (.aload_n 0, 1) := by decide +kernel
theorem d_Home_word_85 : decode prog_1_method_13_code 85 = .ok (.getfield 25, 3) := by decide +kernel
theorem d_Home_word_88 : decode prog_1_method_13_code 88 = .ok (.iload_n 1, 1) := by decide +kernel
theorem d_Home_word_89 : decode prog_1_method_13_code 89 = .ok (.aaload, 1) := by decide +kernel
theorem d_Home_word_90 : decode prog_1_method_13_code 90 = .ok (.bipush 35, 2) := by decide +kernel
theorem d_Home_word_92 : decode prog_1_method_13_code 92 = .ok (.iload_n 2, 1) := by decide +kernel
theorem d_Home_word_93 : decode prog_1_method_13_code 93 = .ok (.iadd, 1) := by decide +kernel
theorem d_Home_word_94 : decode prog_1_method_13_code 94 = .ok (.invokevirtual 143, 3) := by decide +kernel
theorem d_Home_word_97 : decode prog_1_method_13_code 97 = .ok (.ireturn, 1) := by decide +kernel
theorem d_Home_word_98 : decode prog_1_method_13_code 98 = .ok (.iconst (-1), 1) := by decide +kernel
theorem d_Home_word_99 : decode prog_1_method_13_code 99 = .ok (.ireturn, 1) := by decide +kernel
set_option maxHeartbeats 4000000 in
set_option maxRecDepth 100000 in
theorem r_Home_word_0 {p : Program} {l : Launch} {e : Env} {s : State} {m : MethodId} {args : Array Value} {below : List Frame} {meth : Method} {c : Code} {G : zG} {K : Nat} (X : zX p s m args meth c "AllHome" prog_1_method_13_code 4 (some .int) G (zA G K)) {r : Int32} (a0 : Nat) (x1 : Int32) (x2 : Int32) (x3 : Int32) (h : zH) (hm : m_Home_word a0 x1 x2 x3 h = some r) {H : Heap} {locs : List Loc} {ls : Array Slot} (hI : zI G K s (zA G K) H locs h) (hl : lv_has ls 4 [(0, .ref (G.1 a0)), (1, .int x1), (2, .int x2), (3, .int x3)]) : W p l e (zR 1) s m args below meth c H locs 0 0 (MQ below (zQi G K r h) args s 0 0 (zA G K)) (F0 m 0 ls []) := by
  obtain ⟨hx, hb, hml, hown, hts, hr, hlocks, hK, hST, hNs⟩ := id X
  unfold m_Home_word at hm
  refine lv_aload_n hx hb d_Home_word_0 rfl (lv_at hl 0 rfl) ?_
  refine lv_iload_n hx hb d_Home_word_1 rfl (lv_at hl 1 rfl) ?_
  obtain ⟨v2, hv, hm⟩ := zbd hm
  obtain ⟨hq, hv⟩ := zcv_at hv
  refine z_ci hI (z_runV (As := [.int x1]) (rest := []) X hI hl.1 (c_Home_isRun l G K a0 x1 h _ hv) C_Home_106 rfl hq (Nat.le_of_ble_eq_true rfl) ⟨Nat.le_of_ble_eq_true rfl, Nat.le_of_ble_eq_true rfl, Nat.zero_le _, Nat.zero_le _⟩ rfl d_Home_word_2) (fun H locs hI => ?_)
  refine lv_if_eq (tgt := 27) hx hb d_Home_word_5 (by decide) (fun hc5 => ?_) (fun hc5 => ?_)
  · replace hm := zif_t hc5 hm
    refine lv_iconst (v := (-1 : Int32)) hx hb d_Home_word_27 (by decide) ?_
    obtain rfl := zs1 hm
    exact z_iret X hI d_Home_word_28
  · replace hm := zif_f hc5 hm
    refine lv_iload_n hx hb d_Home_word_8 rfl (lv_at hl 2 rfl) ?_
    refine lv_if_lt (tgt := 27) hx hb d_Home_word_9 (by decide) (fun hc9 => ?_) (fun hc9 => ?_)
    · replace hm := zif_t hc9 hm
      refine lv_iconst (v := (-1 : Int32)) hx hb d_Home_word_27 (by decide) ?_
      obtain rfl := zs1 hm
      exact z_iret X hI d_Home_word_28
    · replace hm := zif_f hc9 hm
      refine lv_iload_n hx hb d_Home_word_12 rfl (lv_at hl 2 rfl) ?_
      refine lv_aload_n hx hb d_Home_word_13 rfl (lv_at hl 0 rfl) ?_
      obtain ⟨v14, hv, hm⟩ := zbd hm
      refine z_getR X hI F_Home_25 hv d_Home_word_14 ?_
      refine lv_iload_n hx hb d_Home_word_17 rfl (lv_at hl 1 rfl) ?_
      obtain ⟨v18, hv, hm⟩ := zbd hm
      refine z_aald X hI 3 (.object "AllHome$Run") rfl rfl hv d_Home_word_18 ?_
      refine lv_bipush (v := (nI 18)) hx hb d_Home_word_19 (by decide) ?_
      obtain ⟨v21, hv, hm⟩ := zbd hm
      obtain ⟨hq, hv⟩ := zcv_at hv
      refine z_ci hI (z_runV (As := [.int (nI 18)]) (rest := [.int x2]) X hI hl.1 (c_Run_cell l G K v18 (nI 18) h _ hv) C_Home_143 rfl hq (Nat.le_of_ble_eq_true rfl) ⟨Nat.le_of_ble_eq_true rfl, Nat.le_of_ble_eq_true rfl, Nat.zero_le _, Nat.zero_le _⟩ rfl d_Home_word_21) (fun H locs hI => ?_)
      refine lv_icmp_lt (tgt := 29) hx hb d_Home_word_24 (by decide) (fun hc24 => ?_) (fun hc24 => ?_)
      · replace hm := zif_t hc24 hm
        refine lv_iload_n hx hb d_Home_word_29 rfl (lv_at hl 3 rfl) ?_
        by_cases hs30_0 : x3 = (nI 0)
        · replace hm := zif_t hs30_0 hm
          refine lv_tableIn (off := 26) (tgt := 56) hx hb d_Home_word_30 (by rw [hs30_0]; decide) (by rw [hs30_0]; decide) (by rw [hs30_0]; rfl) (by decide) ?_
          refine lv_aload_n hx hb d_Home_word_56 rfl (lv_at hl 0 rfl) ?_
          obtain ⟨v57, hv, hm⟩ := zbd hm
          refine z_getR X hI F_Home_25 hv d_Home_word_57 ?_
          refine lv_iload_n hx hb d_Home_word_60 rfl (lv_at hl 1 rfl) ?_
          obtain ⟨v61, hv, hm⟩ := zbd hm
          refine z_aald X hI 3 (.object "AllHome$Run") rfl rfl hv d_Home_word_61 ?_
          refine lv_bipush (v := (nI 19)) hx hb d_Home_word_62 (by decide) ?_
          refine lv_iload_n hx hb d_Home_word_64 rfl (lv_at hl 2 rfl) ?_
          refine lv_iadd hx hb d_Home_word_65 ?_
          obtain ⟨v66, hv, hm⟩ := zbd hm
          obtain ⟨hq, hv⟩ := zcv_at hv
          refine z_ci hI (z_runV (As := [.int ((nI 19) + x2)]) (rest := []) X hI hl.1 (c_Run_cell l G K v61 ((nI 19) + x2) h _ hv) C_Home_143 rfl hq (Nat.le_of_ble_eq_true rfl) ⟨Nat.le_of_ble_eq_true rfl, Nat.le_of_ble_eq_true rfl, Nat.zero_le _, Nat.zero_le _⟩ rfl d_Home_word_66) (fun H locs hI => ?_)
          obtain rfl := zs1 hm
          exact z_iret X hI d_Home_word_69
        · replace hm := zif_f hs30_0 hm
          by_cases hs30_1 : x3 = (nI 1)
          · replace hm := zif_t hs30_1 hm
            refine lv_tableIn (off := 40) (tgt := 70) hx hb d_Home_word_30 (by rw [hs30_1]; decide) (by rw [hs30_1]; decide) (by rw [hs30_1]; rfl) (by decide) ?_
            refine lv_aload_n hx hb d_Home_word_70 rfl (lv_at hl 0 rfl) ?_
            obtain ⟨v71, hv, hm⟩ := zbd hm
            refine z_getR X hI F_Home_25 hv d_Home_word_71 ?_
            refine lv_iload_n hx hb d_Home_word_74 rfl (lv_at hl 1 rfl) ?_
            obtain ⟨v75, hv, hm⟩ := zbd hm
            refine z_aald X hI 3 (.object "AllHome$Run") rfl rfl hv d_Home_word_75 ?_
            refine lv_bipush (v := (nI 27)) hx hb d_Home_word_76 (by decide) ?_
            refine lv_iload_n hx hb d_Home_word_78 rfl (lv_at hl 2 rfl) ?_
            refine lv_iadd hx hb d_Home_word_79 ?_
            obtain ⟨v80, hv, hm⟩ := zbd hm
            obtain ⟨hq, hv⟩ := zcv_at hv
            refine z_ci hI (z_runV (As := [.int ((nI 27) + x2)]) (rest := []) X hI hl.1 (c_Run_cell l G K v75 ((nI 27) + x2) h _ hv) C_Home_143 rfl hq (Nat.le_of_ble_eq_true rfl) ⟨Nat.le_of_ble_eq_true rfl, Nat.le_of_ble_eq_true rfl, Nat.zero_le _, Nat.zero_le _⟩ rfl d_Home_word_80) (fun H locs hI => ?_)
            obtain rfl := zs1 hm
            exact z_iret X hI d_Home_word_83
          · replace hm := zif_f hs30_1 hm
            by_cases hs30_2 : x3 = (nI 2)
            · replace hm := zif_t hs30_2 hm
              refine lv_tableIn (off := 54) (tgt := 84) hx hb d_Home_word_30 (by rw [hs30_2]; decide) (by rw [hs30_2]; decide) (by rw [hs30_2]; rfl) (by decide) ?_
              refine lv_aload_n hx hb d_Home_word_84 rfl (lv_at hl 0 rfl) ?_
              obtain ⟨v85, hv, hm⟩ := zbd hm
              refine z_getR X hI F_Home_25 hv d_Home_word_85 ?_
              refine lv_iload_n hx hb d_Home_word_88 rfl (lv_at hl 1 rfl) ?_
              obtain ⟨v89, hv, hm⟩ := zbd hm
              refine z_aald X hI 3 (.object "AllHome$Run") rfl rfl hv d_Home_word_89 ?_
              refine lv_bipush (v := (nI 35)) hx hb d_Home_word_90 (by decide) ?_
              refine lv_iload_n hx hb d_Home_word_92 rfl (lv_at hl 2 rfl) ?_
              refine lv_iadd hx hb d_Home_word_93 ?_
              obtain ⟨v94, hv, hm⟩ := zbd hm
              obtain ⟨hq, hv⟩ := zcv_at hv
              refine z_ci hI (z_runV (As := [.int ((nI 35) + x2)]) (rest := []) X hI hl.1 (c_Run_cell l G K v89 ((nI 35) + x2) h _ hv) C_Home_143 rfl hq (Nat.le_of_ble_eq_true rfl) ⟨Nat.le_of_ble_eq_true rfl, Nat.le_of_ble_eq_true rfl, Nat.zero_le _, Nat.zero_le _⟩ rfl d_Home_word_94) (fun H locs hI => ?_)
              obtain rfl := zs1 hm
              exact z_iret X hI d_Home_word_97
            · replace hm := zif_f hs30_2 hm
              have he0 : (x3).toInt ≠ 0 := fun q => hs30_0 (Int32.toInt_inj.mp (q.trans (by decide)))
              have he1 : (x3).toInt ≠ 1 := fun q => hs30_1 (Int32.toInt_inj.mp (q.trans (by decide)))
              have he2 : (x3).toInt ≠ 2 := fun q => hs30_2 (Int32.toInt_inj.mp (q.trans (by decide)))
              refine lv_tableOut (tgt := 98) hx hb d_Home_word_30 (by omega) (by decide) ?_
              refine lv_iconst (v := (-1 : Int32)) hx hb d_Home_word_98 (by decide) ?_
              obtain rfl := zs1 hm
              exact z_iret X hI d_Home_word_99
      · replace hm := zif_f hc24 hm
        refine lv_iconst (v := (-1 : Int32)) hx hb d_Home_word_27 (by decide) ?_
        obtain rfl := zs1 hm
        exact z_iret X hI d_Home_word_28
set_option maxHeartbeats 4000000 in
set_option maxRecDepth 100000 in
theorem c_Home_word (l : Launch) (G : zG) (K : Nat) (a0 : Nat) (x1 : Int32) (x2 : Int32) (x3 : Int32) (h : zH) (r : Int32) (hm : m_Home_word a0 x1 x2 x3 h = some r) : zMi l G K y_Home_word prog_1_method_13_code 4 1 [.ref (G.1 a0), .int x1, .int x2, .int x3] h r h := zMet (by decide +kernel) (Nat.le_of_ble_eq_true rfl) (fun p e s m below meth c ls X hI hl => r_Home_word_0 X a0 x1 x2 x3 h hm hI hl)
-- walk of AllHome.note
theorem d_Home_note_0 : decode prog_1_method_14_code 0 = .ok (.aload_n 0, 1) := by decide +kernel
theorem d_Home_note_1 : decode prog_1_method_14_code 1 = .ok (.iload_n 1, 1) := by decide +kernel
theorem d_Home_note_2 : decode prog_1_method_14_code 2 = .ok (.invokevirtual 106, 3) := by decide +kernel
theorem d_Home_note_5 : decode prog_1_method_14_code 5 = .ok (.ifCond .eq 22, 3) := by decide +kernel
theorem d_Home_note_8 : decode prog_1_method_14_code 8 = .ok (.iload_n 2, 1) := by decide +kernel
theorem d_Home_note_9 : decode prog_1_method_14_code 9 = .ok (.ifCond .lt 18, 3) := by decide +kernel
theorem d_Home_note_12 : decode prog_1_method_14_code 12 = .ok (.iload_n 2, 1) := by decide +kernel
theorem d_Home_note_13 : decode prog_1_method_14_code 13 = .ok (.aload_n 0, 1) := by decide +kernel
theorem d_Home_note_14 : decode prog_1_method_14_code 14 = .ok (.getfield 25, 3) := by decide +kernel
theorem d_Home_note_17 : decode prog_1_method_14_code 17 = .ok (.iload_n 1, 1) := by decide +kernel
theorem d_Home_note_18 : decode prog_1_method_14_code 18 = .ok (.aaload, 1) := by decide +kernel
theorem d_Home_note_19 : decode prog_1_method_14_code 19 = .ok (.bipush 43, 2) := by decide +kernel
theorem d_Home_note_21 : decode prog_1_method_14_code 21 = .ok (.invokevirtual 143, 3) := by decide +kernel
theorem d_Home_note_24 : decode prog_1_method_14_code 24 = .ok (.if_icmp .lt 6, 3) := by decide +kernel
theorem d_Home_note_27 : decode prog_1_method_14_code 27 = .ok (.ldc 136, 2) := by decide +kernel
theorem d_Home_note_29 : decode prog_1_method_14_code 29 = .ok (.ireturn, 1) := by decide +kernel
theorem d_Home_note_30 : decode prog_1_method_14_code 30 = .ok (.iload_n 3, 1) := by decide +kernel
theorem d_Home_note_31 : decode prog_1_method_14_code 31 = .ok (.tableswitch 67 0 2 #[25, 39, 53], 25) := by decide +kernel
theorem d_Home_note_56 : decode prog_1_method_14_code 56 = .ok (.aload_n 0, 1) := by decide +kernel
theorem d_Home_note_57 : decode prog_1_method_14_code 57 = .ok (.getfield 25, 3) := by decide +kernel
theorem d_Home_note_60 : decode prog_1_method_14_code 60 = .ok (.iload_n 1, 1) := by decide +kernel
theorem d_Home_note_61 : decode prog_1_method_14_code 61 = .ok (.aaload, 1) := by decide +kernel
theorem d_Home_note_62 : decode prog_1_method_14_code 62 = .ok (.bipush 44, 2) := by decide +kernel
theorem d_Home_note_64 : decode prog_1_method_14_code 64 = .ok (.iload_n 2, 1) := by decide +kernel
theorem d_Home_note_65 : decode prog_1_method_14_code 65 = .ok (.iadd, 1) := by decide +kernel
theorem d_Home_note_66 : decode prog_1_method_14_code 66 = .ok (.invokevirtual 143, 3) := by decide +kernel
theorem d_Home_note_69 : decode prog_1_method_14_code 69 = .ok (.ireturn, 1) := by decide +kernel
theorem d_Home_note_70 : decode prog_1_method_14_code 70 = .ok (.aload_n 0, 1) := by decide +kernel
theorem d_Home_note_71 : decode prog_1_method_14_code 71 = .ok (.getfield 25, 3) := by decide +kernel
theorem d_Home_note_74 : decode prog_1_method_14_code 74 = .ok (.iload_n 1, 1) := by decide +kernel
theorem d_Home_note_75 : decode prog_1_method_14_code 75 = .ok (.aaload, 1) := by decide +kernel
theorem d_Home_note_76 : decode prog_1_method_14_code 76 = .ok (.bipush 52, 2) := by decide +kernel
theorem d_Home_note_78 : decode prog_1_method_14_code 78 = .ok (.iload_n 2, 1) := by decide +kernel
theorem d_Home_note_79 : decode prog_1_method_14_code 79 = .ok (.iadd, 1) := by decide +kernel
theorem d_Home_note_80 : decode prog_1_method_14_code 80 = .ok (.invokevirtual 143, 3) := by decide +kernel
theorem d_Home_note_83 : decode prog_1_method_14_code 83 = .ok (.ireturn, 1) := by decide +kernel
theorem d_Home_note_84 : decode prog_1_method_14_code 84 = .ok (.aload_n 0, 1) := by decide +kernel
theorem d_Home_note_85 : decode prog_1_method_14_code 85 = .ok (.getfield 25, 3) := by decide +kernel
theorem d_Home_note_88 : decode prog_1_method_14_code 88 = .ok (.iload_n 1, 1) := by decide +kernel
theorem d_Home_note_89 : decode prog_1_method_14_code 89 = .ok (.aaload, 1) := by decide +kernel
theorem d_Home_note_90 : decode prog_1_method_14_code 90 = .ok (.bipush 60, 2) := by decide +kernel
theorem d_Home_note_92 : decode prog_1_method_14_code 92 = .ok (.iload_n 2, 1) := by decide +kernel
theorem d_Home_note_93 : decode prog_1_method_14_code 93 = .ok (.iadd, 1) := by decide +kernel
theorem d_Home_note_94 : decode prog_1_method_14_code 94 = .ok (.invokevirtual 143, 3) := by decide +kernel
theorem d_Home_note_97 : decode prog_1_method_14_code 97 = .ok (.ireturn, 1) := by decide +kernel
theorem d_Home_note_98 : decode prog_1_method_14_code 98 = .ok (.ldc 136, 2) := by decide +kernel
theorem d_Home_note_100 : decode prog_1_method_14_code 100 = .ok (.ireturn, 1) := by decide +kernel
set_option maxHeartbeats 4000000 in
set_option maxRecDepth 100000 in
theorem r_Home_note_0 {p : Program} {l : Launch} {e : Env} {s : State} {m : MethodId} {args : Array Value} {below : List Frame} {meth : Method} {c : Code} {G : zG} {K : Nat} (X : zX p s m args meth c "AllHome" prog_1_method_14_code 4 (some .int) G (zA G K)) {r : Int32} (a0 : Nat) (x1 : Int32) (x2 : Int32) (x3 : Int32) (h : zH) (hm : m_Home_note a0 x1 x2 x3 h = some r) {H : Heap} {locs : List Loc} {ls : Array Slot} (hI : zI G K s (zA G K) H locs h) (hl : lv_has ls 4 [(0, .ref (G.1 a0)), (1, .int x1), (2, .int x2), (3, .int x3)]) : W p l e (zR 1) s m args below meth c H locs 0 0 (MQ below (zQi G K r h) args s 0 0 (zA G K)) (F0 m 0 ls []) := by
  obtain ⟨hx, hb, hml, hown, hts, hr, hlocks, hK, hST, hNs⟩ := id X
  unfold m_Home_note at hm
  refine lv_aload_n hx hb d_Home_note_0 rfl (lv_at hl 0 rfl) ?_
  refine lv_iload_n hx hb d_Home_note_1 rfl (lv_at hl 1 rfl) ?_
  obtain ⟨v2, hv, hm⟩ := zbd hm
  obtain ⟨hq, hv⟩ := zcv_at hv
  refine z_ci hI (z_runV (As := [.int x1]) (rest := []) X hI hl.1 (c_Home_isRun l G K a0 x1 h _ hv) C_Home_106 rfl hq (Nat.le_of_ble_eq_true rfl) ⟨Nat.le_of_ble_eq_true rfl, Nat.le_of_ble_eq_true rfl, Nat.zero_le _, Nat.zero_le _⟩ rfl d_Home_note_2) (fun H locs hI => ?_)
  refine lv_if_eq (tgt := 27) hx hb d_Home_note_5 (by decide) (fun hc5 => ?_) (fun hc5 => ?_)
  · replace hm := zif_t hc5 hm
    refine lv_ldc hx hb hown (hts _ kw429) d_Home_note_27 ?_
    obtain rfl := zs1 hm
    exact z_iret X hI d_Home_note_29
  · replace hm := zif_f hc5 hm
    refine lv_iload_n hx hb d_Home_note_8 rfl (lv_at hl 2 rfl) ?_
    refine lv_if_lt (tgt := 27) hx hb d_Home_note_9 (by decide) (fun hc9 => ?_) (fun hc9 => ?_)
    · replace hm := zif_t hc9 hm
      refine lv_ldc hx hb hown (hts _ kw429) d_Home_note_27 ?_
      obtain rfl := zs1 hm
      exact z_iret X hI d_Home_note_29
    · replace hm := zif_f hc9 hm
      refine lv_iload_n hx hb d_Home_note_12 rfl (lv_at hl 2 rfl) ?_
      refine lv_aload_n hx hb d_Home_note_13 rfl (lv_at hl 0 rfl) ?_
      obtain ⟨v14, hv, hm⟩ := zbd hm
      refine z_getR X hI F_Home_25 hv d_Home_note_14 ?_
      refine lv_iload_n hx hb d_Home_note_17 rfl (lv_at hl 1 rfl) ?_
      obtain ⟨v18, hv, hm⟩ := zbd hm
      refine z_aald X hI 3 (.object "AllHome$Run") rfl rfl hv d_Home_note_18 ?_
      refine lv_bipush (v := (nI 43)) hx hb d_Home_note_19 (by decide) ?_
      obtain ⟨v21, hv, hm⟩ := zbd hm
      obtain ⟨hq, hv⟩ := zcv_at hv
      refine z_ci hI (z_runV (As := [.int (nI 43)]) (rest := [.int x2]) X hI hl.1 (c_Run_cell l G K v18 (nI 43) h _ hv) C_Home_143 rfl hq (Nat.le_of_ble_eq_true rfl) ⟨Nat.le_of_ble_eq_true rfl, Nat.le_of_ble_eq_true rfl, Nat.zero_le _, Nat.zero_le _⟩ rfl d_Home_note_21) (fun H locs hI => ?_)
      refine lv_icmp_lt (tgt := 30) hx hb d_Home_note_24 (by decide) (fun hc24 => ?_) (fun hc24 => ?_)
      · replace hm := zif_t hc24 hm
        refine lv_iload_n hx hb d_Home_note_30 rfl (lv_at hl 3 rfl) ?_
        by_cases hs31_0 : x3 = (nI 0)
        · replace hm := zif_t hs31_0 hm
          refine lv_tableIn (off := 25) (tgt := 56) hx hb d_Home_note_31 (by rw [hs31_0]; decide) (by rw [hs31_0]; decide) (by rw [hs31_0]; rfl) (by decide) ?_
          refine lv_aload_n hx hb d_Home_note_56 rfl (lv_at hl 0 rfl) ?_
          obtain ⟨v57, hv, hm⟩ := zbd hm
          refine z_getR X hI F_Home_25 hv d_Home_note_57 ?_
          refine lv_iload_n hx hb d_Home_note_60 rfl (lv_at hl 1 rfl) ?_
          obtain ⟨v61, hv, hm⟩ := zbd hm
          refine z_aald X hI 3 (.object "AllHome$Run") rfl rfl hv d_Home_note_61 ?_
          refine lv_bipush (v := (nI 44)) hx hb d_Home_note_62 (by decide) ?_
          refine lv_iload_n hx hb d_Home_note_64 rfl (lv_at hl 2 rfl) ?_
          refine lv_iadd hx hb d_Home_note_65 ?_
          obtain ⟨v66, hv, hm⟩ := zbd hm
          obtain ⟨hq, hv⟩ := zcv_at hv
          refine z_ci hI (z_runV (As := [.int ((nI 44) + x2)]) (rest := []) X hI hl.1 (c_Run_cell l G K v61 ((nI 44) + x2) h _ hv) C_Home_143 rfl hq (Nat.le_of_ble_eq_true rfl) ⟨Nat.le_of_ble_eq_true rfl, Nat.le_of_ble_eq_true rfl, Nat.zero_le _, Nat.zero_le _⟩ rfl d_Home_note_66) (fun H locs hI => ?_)
          obtain rfl := zs1 hm
          exact z_iret X hI d_Home_note_69
        · replace hm := zif_f hs31_0 hm
          by_cases hs31_1 : x3 = (nI 1)
          · replace hm := zif_t hs31_1 hm
            refine lv_tableIn (off := 39) (tgt := 70) hx hb d_Home_note_31 (by rw [hs31_1]; decide) (by rw [hs31_1]; decide) (by rw [hs31_1]; rfl) (by decide) ?_
            refine lv_aload_n hx hb d_Home_note_70 rfl (lv_at hl 0 rfl) ?_
            obtain ⟨v71, hv, hm⟩ := zbd hm
            refine z_getR X hI F_Home_25 hv d_Home_note_71 ?_
            refine lv_iload_n hx hb d_Home_note_74 rfl (lv_at hl 1 rfl) ?_
            obtain ⟨v75, hv, hm⟩ := zbd hm
            refine z_aald X hI 3 (.object "AllHome$Run") rfl rfl hv d_Home_note_75 ?_
            refine lv_bipush (v := (nI 52)) hx hb d_Home_note_76 (by decide) ?_
            refine lv_iload_n hx hb d_Home_note_78 rfl (lv_at hl 2 rfl) ?_
            refine lv_iadd hx hb d_Home_note_79 ?_
            obtain ⟨v80, hv, hm⟩ := zbd hm
            obtain ⟨hq, hv⟩ := zcv_at hv
            refine z_ci hI (z_runV (As := [.int ((nI 52) + x2)]) (rest := []) X hI hl.1 (c_Run_cell l G K v75 ((nI 52) + x2) h _ hv) C_Home_143 rfl hq (Nat.le_of_ble_eq_true rfl) ⟨Nat.le_of_ble_eq_true rfl, Nat.le_of_ble_eq_true rfl, Nat.zero_le _, Nat.zero_le _⟩ rfl d_Home_note_80) (fun H locs hI => ?_)
            obtain rfl := zs1 hm
            exact z_iret X hI d_Home_note_83
          · replace hm := zif_f hs31_1 hm
            by_cases hs31_2 : x3 = (nI 2)
            · replace hm := zif_t hs31_2 hm
              refine lv_tableIn (off := 53) (tgt := 84) hx hb d_Home_note_31 (by rw [hs31_2]; decide) (by rw [hs31_2]; decide) (by rw [hs31_2]; rfl) (by decide) ?_
              refine lv_aload_n hx hb d_Home_note_84 rfl (lv_at hl 0 rfl) ?_
              obtain ⟨v85, hv, hm⟩ := zbd hm
              refine z_getR X hI F_Home_25 hv d_Home_note_85 ?_
              refine lv_iload_n hx hb d_Home_note_88 rfl (lv_at hl 1 rfl) ?_
              obtain ⟨v89, hv, hm⟩ := zbd hm
              refine z_aald X hI 3 (.object "AllHome$Run") rfl rfl hv d_Home_note_89 ?_
              refine lv_bipush (v := (nI 60)) hx hb d_Home_note_90 (by decide) ?_
              refine lv_iload_n hx hb d_Home_note_92 rfl (lv_at hl 2 rfl) ?_
              refine lv_iadd hx hb d_Home_note_93 ?_
              obtain ⟨v94, hv, hm⟩ := zbd hm
              obtain ⟨hq, hv⟩ := zcv_at hv
              refine z_ci hI (z_runV (As := [.int ((nI 60) + x2)]) (rest := []) X hI hl.1 (c_Run_cell l G K v89 ((nI 60) + x2) h _ hv) C_Home_143 rfl hq (Nat.le_of_ble_eq_true rfl) ⟨Nat.le_of_ble_eq_true rfl, Nat.le_of_ble_eq_true rfl, Nat.zero_le _, Nat.zero_le _⟩ rfl d_Home_note_94) (fun H locs hI => ?_)
              obtain rfl := zs1 hm
              exact z_iret X hI d_Home_note_97
            · replace hm := zif_f hs31_2 hm
              have he0 : (x3).toInt ≠ 0 := fun q => hs31_0 (Int32.toInt_inj.mp (q.trans (by decide)))
              have he1 : (x3).toInt ≠ 1 := fun q => hs31_1 (Int32.toInt_inj.mp (q.trans (by decide)))
              have he2 : (x3).toInt ≠ 2 := fun q => hs31_2 (Int32.toInt_inj.mp (q.trans (by decide)))
              refine lv_tableOut (tgt := 98) hx hb d_Home_note_31 (by omega) (by decide) ?_
              refine lv_ldc hx hb hown (hts _ kw429) d_Home_note_98 ?_
              obtain rfl := zs1 hm
              exact z_iret X hI d_Home_note_100
      · replace hm := zif_f hc24 hm
        refine lv_ldc hx hb hown (hts _ kw429) d_Home_note_27 ?_
        obtain rfl := zs1 hm
        exact z_iret X hI d_Home_note_29
set_option maxHeartbeats 4000000 in
set_option maxRecDepth 100000 in
theorem c_Home_note (l : Launch) (G : zG) (K : Nat) (a0 : Nat) (x1 : Int32) (x2 : Int32) (x3 : Int32) (h : zH) (r : Int32) (hm : m_Home_note a0 x1 x2 x3 h = some r) : zMi l G K y_Home_note prog_1_method_14_code 4 1 [.ref (G.1 a0), .int x1, .int x2, .int x3] h r h := zMet (by decide +kernel) (Nat.le_of_ble_eq_true rfl) (fun p e s m below meth c ls X hI hl => r_Home_note_0 X a0 x1 x2 x3 h hm hI hl)
-- walk of AllHome.total
theorem d_Home_total_0 : decode prog_1_method_15_code 0 = .ok (.aload_n 0, 1) := by decide +kernel
theorem d_Home_total_1 : decode prog_1_method_15_code 1 = .ok (.iload_n 1, 1) := by decide +kernel
theorem d_Home_total_2 : decode prog_1_method_15_code 2 = .ok (.invokevirtual 106, 3) := by decide +kernel
theorem d_Home_total_5 : decode prog_1_method_15_code 5 = .ok (.ifCond .ne 5, 3) := by decide +kernel
theorem d_Home_total_8 : decode prog_1_method_15_code 8 = .ok (.iconst (-1), 1) := by decide +kernel
theorem d_Home_total_9 : decode prog_1_method_15_code 9 = .ok (.ireturn, 1) := by decide +kernel
theorem d_Home_total_10 : decode prog_1_method_15_code 10 = .ok (.aload_n 0, 1) := by decide +kernel
theorem d_Home_total_11 : decode prog_1_method_15_code 11 = .ok (.getfield 25, 3) := by decide +kernel
theorem d_Home_total_14 : decode prog_1_method_15_code 14 = .ok (.iload_n 1, 1) := by decide +kernel
theorem d_Home_total_15 : decode prog_1_method_15_code 15 = .ok (.aaload, 1) := by decide +kernel
theorem d_Home_total_16 : decode prog_1_method_15_code 16 = .ok (.invokevirtual 140, 3) := by decide +kernel
theorem d_Home_total_19 : decode prog_1_method_15_code 19 = .ok (.iconst 1, 1) := by decide +kernel
theorem d_Home_total_20 : decode prog_1_method_15_code 20 = .ok (.if_icmp .ne 17, 3) := by decide +kernel
theorem d_Home_total_23 : decode prog_1_method_15_code 23 = .ok (.aload_n 0, 1) := by decide +kernel
theorem d_Home_total_24 : decode prog_1_method_15_code 24 = .ok (.getfield 25, 3) := by decide +kernel
theorem d_Home_total_27 : decode prog_1_method_15_code 27 = .ok (.iload_n 1, 1) := by decide +kernel
theorem d_Home_total_28 : decode prog_1_method_15_code 28 = .ok (.aaload, 1) := by decide +kernel
theorem d_Home_total_29 : decode prog_1_method_15_code 29 = .ok (.bipush 74, 2) := by decide +kernel
theorem d_Home_total_31 : decode prog_1_method_15_code 31 = .ok (.invokevirtual 143, 3) := by decide +kernel
theorem d_Home_total_34 : decode prog_1_method_15_code 34 = .ok (.goto 5, 3) := by decide +kernel
theorem d_Home_total_37 : decode prog_1_method_15_code 37 = .ok (.bipush (-2), 2) := by decide +kernel
theorem d_Home_total_39 : decode prog_1_method_15_code 39 = .ok (.ireturn, 1) := by decide +kernel
set_option maxHeartbeats 4000000 in
set_option maxRecDepth 100000 in
theorem r_Home_total_0 {p : Program} {l : Launch} {e : Env} {s : State} {m : MethodId} {args : Array Value} {below : List Frame} {meth : Method} {c : Code} {G : zG} {K : Nat} (X : zX p s m args meth c "AllHome" prog_1_method_15_code 2 (some .int) G (zA G K)) {r : Int32} (a0 : Nat) (x1 : Int32) (h : zH) (hm : m_Home_total a0 x1 h = some r) {H : Heap} {locs : List Loc} {ls : Array Slot} (hI : zI G K s (zA G K) H locs h) (hl : lv_has ls 2 [(0, .ref (G.1 a0)), (1, .int x1)]) : W p l e (zR 2) s m args below meth c H locs 0 0 (MQ below (zQi G K r h) args s 0 0 (zA G K)) (F0 m 0 ls []) := by
  obtain ⟨hx, hb, hml, hown, hts, hr, hlocks, hK, hST, hNs⟩ := id X
  unfold m_Home_total at hm
  refine lv_aload_n hx hb d_Home_total_0 rfl (lv_at hl 0 rfl) ?_
  refine lv_iload_n hx hb d_Home_total_1 rfl (lv_at hl 1 rfl) ?_
  obtain ⟨v2, hv, hm⟩ := zbd hm
  obtain ⟨hq, hv⟩ := zcv_at hv
  refine z_ci hI (z_runV (As := [.int x1]) (rest := []) X hI hl.1 (c_Home_isRun l G K a0 x1 h _ hv) C_Home_106 rfl hq (Nat.le_of_ble_eq_true rfl) ⟨Nat.le_of_ble_eq_true rfl, Nat.le_of_ble_eq_true rfl, Nat.zero_le _, Nat.zero_le _⟩ rfl d_Home_total_2) (fun H locs hI => ?_)
  refine lv_if_ne (tgt := 10) hx hb d_Home_total_5 (by decide) (fun hc5 => ?_) (fun hc5 => ?_)
  · replace hm := zif_f hc5 hm
    refine lv_aload_n hx hb d_Home_total_10 rfl (lv_at hl 0 rfl) ?_
    obtain ⟨v11, hv, hm⟩ := zbd hm
    refine z_getR X hI F_Home_25 hv d_Home_total_11 ?_
    refine lv_iload_n hx hb d_Home_total_14 rfl (lv_at hl 1 rfl) ?_
    obtain ⟨v15, hv, hm⟩ := zbd hm
    refine z_aald X hI 3 (.object "AllHome$Run") rfl rfl hv d_Home_total_15 ?_
    obtain ⟨v16, hv, hm⟩ := zbd hm
    obtain ⟨hq, hv⟩ := zcv_at hv
    refine z_ci hI (z_runV (As := []) (rest := []) X hI hl.1 (c_Run_family l G K v15 h _ hv) C_Home_140 rfl hq (Nat.le_of_ble_eq_true rfl) ⟨Nat.le_of_ble_eq_true rfl, Nat.le_of_ble_eq_true rfl, Nat.zero_le _, Nat.zero_le _⟩ rfl d_Home_total_16) (fun H locs hI => ?_)
    refine lv_iconst (v := (nI 1)) hx hb d_Home_total_19 (by decide) ?_
    refine lv_icmp_ne (tgt := 37) hx hb d_Home_total_20 (by decide) (fun hc20 => ?_) (fun hc20 => ?_)
    · replace hm := zif_f hc20 hm
      refine lv_bipush (v := (-2 : Int32)) hx hb d_Home_total_37 (by decide) ?_
      obtain rfl := zs1 hm
      exact z_iret X hI d_Home_total_39
    · replace hm := zif_t hc20 hm
      refine lv_aload_n hx hb d_Home_total_23 rfl (lv_at hl 0 rfl) ?_
      obtain ⟨v24, hv, hm⟩ := zbd hm
      refine z_getR X hI F_Home_25 hv d_Home_total_24 ?_
      refine lv_iload_n hx hb d_Home_total_27 rfl (lv_at hl 1 rfl) ?_
      obtain ⟨v28, hv, hm⟩ := zbd hm
      refine z_aald X hI 3 (.object "AllHome$Run") rfl rfl hv d_Home_total_28 ?_
      refine lv_bipush (v := (nI 74)) hx hb d_Home_total_29 (by decide) ?_
      obtain ⟨v31, hv, hm⟩ := zbd hm
      obtain ⟨hq, hv⟩ := zcv_at hv
      refine z_ci hI (z_runV (As := [.int (nI 74)]) (rest := []) X hI hl.1 (c_Run_cell l G K v28 (nI 74) h _ hv) C_Home_143 rfl hq (Nat.le_of_ble_eq_true rfl) ⟨Nat.le_of_ble_eq_true rfl, Nat.le_of_ble_eq_true rfl, Nat.zero_le _, Nat.zero_le _⟩ rfl d_Home_total_31) (fun H locs hI => ?_)
      refine lv_goto (tgt := 39) hx hb d_Home_total_34 (by decide) ?_
      obtain rfl := zs1 hm
      exact z_iret X hI d_Home_total_39
  · replace hm := zif_t hc5 hm
    refine lv_iconst (v := (-1 : Int32)) hx hb d_Home_total_8 (by decide) ?_
    obtain rfl := zs1 hm
    exact z_iret X hI d_Home_total_9
set_option maxHeartbeats 4000000 in
set_option maxRecDepth 100000 in
theorem c_Home_total (l : Launch) (G : zG) (K : Nat) (a0 : Nat) (x1 : Int32) (h : zH) (r : Int32) (hm : m_Home_total a0 x1 h = some r) : zMi l G K y_Home_total prog_1_method_15_code 2 2 [.ref (G.1 a0), .int x1] h r h := zMet (by decide +kernel) (Nat.le_of_ble_eq_true rfl) (fun p e s m below meth c ls X hI hl => r_Home_total_0 X a0 x1 h hm hI hl)
-- walk of AllHome$Orders.printOf
theorem d_Orders_printOf_0 : decode prog_4_method_10_code 0 = .ok (.iconst 0, 1) := by decide +kernel
theorem d_Orders_printOf_1 : decode prog_4_method_10_code 1 = .ok (.istore_n 1, 1) := by decide +kernel
theorem d_Orders_printOf_2 : decode prog_4_method_10_code 2 = .ok (.iconst 0, 1) := by decide +kernel
theorem d_Orders_printOf_3 : decode prog_4_method_10_code 3 = .ok (.istore_n 2, 1) := by decide +kernel
theorem d_Orders_printOf_4 : decode prog_4_method_10_code 4 = .ok (.iload_n 2, 1) := by decide +kernel
theorem d_Orders_printOf_5 : decode prog_4_method_10_code 5 = .ok (.bipush 121, 2) := by decide +kernel
theorem d_Orders_printOf_7 : decode prog_4_method_10_code 7 = .ok (.if_icmp .ge 18, 3) := by decide +kernel
theorem d_Orders_printOf_10 : decode prog_4_method_10_code 10 = .ok (.iload_n 1, 1) := by decide +kernel
theorem d_Orders_printOf_11 : decode prog_4_method_10_code 11 = .ok (.bipush 31, 2) := by decide +kernel
theorem d_Orders_printOf_13 : decode prog_4_method_10_code 13 = .ok (.imul, 1) := by decide +kernel
theorem d_Orders_printOf_14 : decode prog_4_method_10_code 14 = .ok (.aload_n 0, 1) := by decide +kernel
theorem d_Orders_printOf_15 : decode prog_4_method_10_code 15 = .ok (.iload_n 2, 1) := by decide +kernel
theorem d_Orders_printOf_16 : decode prog_4_method_10_code 16 = .ok (.iaload, 1) := by decide +kernel
theorem d_Orders_printOf_17 : decode prog_4_method_10_code 17 = .ok (.iadd, 1) := by decide +kernel
theorem d_Orders_printOf_18 : decode prog_4_method_10_code 18 = .ok (.istore_n 1, 1) := by decide +kernel
theorem d_Orders_printOf_19 : decode prog_4_method_10_code 19 = .ok (.iinc 2 1, 3) := by decide +kernel
theorem d_Orders_printOf_22 : decode prog_4_method_10_code 22 = .ok (.goto (-18), 3) := by decide +kernel
theorem d_Orders_printOf_25 : decode prog_4_method_10_code 25 = .ok (.iload_n 1, 1) := by decide +kernel
theorem d_Orders_printOf_26 : decode prog_4_method_10_code 26 = .ok (.ireturn, 1) := by decide +kernel
set_option maxHeartbeats 4000000 in
set_option maxRecDepth 100000 in
theorem r_Orders_printOf_4_b {p : Program} {l : Launch} {e : Env} {s : State} {m : MethodId} {args : Array Value} {below : List Frame} {meth : Method} {c : Code} {G : zG} {K : Nat} (X : zX p s m args meth c "AllHome$Orders" prog_4_method_10_code 3 (some .int) G (zA G K)) {r : Int32} (a0 : Nat) (h : zH) (k4 : (Int32 × Int32) → Option Int32) (hk4 : ∀ (w : Int32 × Int32), k4 w = some r → ∀ (H : Heap) (locs : List Loc) (ls : Array Slot), zI G K s (zA G K) H locs h → lv_has ls 3 [(0, .ref (G.1 a0)), (1, .int w.1), (2, .int w.2)] → W p l e (zR 0) s m args below meth c H locs 0 0 (MQ below (zQi G K r h) args s 0 0 (zA G K)) (F0 m 4 ls [])) (u : Int32 × Int32) (hm : g_Orders_printOf_4 a0 h k4 u = some r) {H : Heap} {locs : List Loc} {ls : Array Slot} (hI : zI G K s (zA G K) H locs h) (hl : lv_has ls 3 [(0, .ref (G.1 a0)), (1, .int u.1), (2, .int u.2)]) : W p l e (zR 0) s m args below meth c H locs 0 0 (MQ below (zQi G K r h) args s 0 0 (zA G K)) (F0 m 4 ls []) := by
  obtain ⟨hx, hb, hml, hown, hts, hr, hlocks, hK, hST, hNs⟩ := id X
  unfold g_Orders_printOf_4 at hm
  refine lv_iload_n hx hb d_Orders_printOf_4 rfl (lv_at hl 2 rfl) ?_
  refine lv_bipush (v := (nI 121)) hx hb d_Orders_printOf_5 (by decide) ?_
  refine lv_icmp_ge (tgt := 25) hx hb d_Orders_printOf_7 (by decide) (fun hc7 => ?_) (fun hc7 => ?_)
  · replace hm := zif_t hc7 hm
    refine lv_iload_n hx hb d_Orders_printOf_25 rfl (lv_at hl 1 rfl) ?_
    obtain rfl := zs1 hm
    exact z_iret X hI d_Orders_printOf_26
  · replace hm := zif_f hc7 hm
    refine lv_iload_n hx hb d_Orders_printOf_10 rfl (lv_at hl 1 rfl) ?_
    refine lv_bipush (v := (nI 31)) hx hb d_Orders_printOf_11 (by decide) ?_
    refine lv_imul hx hb d_Orders_printOf_13 ?_
    refine lv_aload_n hx hb d_Orders_printOf_14 rfl (lv_at hl 0 rfl) ?_
    refine lv_iload_n hx hb d_Orders_printOf_15 rfl (lv_at hl 2 rfl) ?_
    obtain ⟨v16, hv, hm⟩ := zbd hm
    refine z_iald X hI hv d_Orders_printOf_16 ?_
    refine lv_iadd hx hb d_Orders_printOf_17 ?_
    refine lv_istore_n (lv' := [(1, .int ((u.1 * (nI 31)) + v16)), (0, .ref (G.1 a0)), (2, .int u.2)]) hx hb d_Orders_printOf_18 rfl hl (by decide) rfl (fun ls hl => ?_)
    refine lv_iinc (v := (u.2 + (nI 1))) (lv' := [(2, .int (u.2 + (nI 1))), (1, .int ((u.1 * (nI 31)) + v16)), (0, .ref (G.1 a0))]) hx hb d_Orders_printOf_19 hl (k := 2) rfl (congrArg (fun z => u.2 + z) (show Int32.ofInt (1) = (nI 1) by decide)) (by decide) rfl (fun ls hl => ?_)
    refine lv_goto (tgt := 4) hx hb d_Orders_printOf_22 (by decide) ?_
    obtain ⟨g0, e0⟩ : ∃ z, z = ((u.1 * (nI 31)) + v16) := ⟨_, rfl⟩
    rw [← e0] at hm hl
    obtain ⟨g1, e1⟩ : ∃ z, z = (u.2 + (nI 1)) := ⟨_, rfl⟩
    rw [← e1] at hm hl
    exact hk4 (g0, g1) hm _ _ _ hI (lv_sub hl [2, 1, 0] rfl)
theorem r_Orders_printOf_4 {p : Program} {l : Launch} {e : Env} {s : State} {m : MethodId} {args : Array Value} {below : List Frame} {meth : Method} {c : Code} {G : zG} {K : Nat} (X : zX p s m args meth c "AllHome$Orders" prog_4_method_10_code 3 (some .int) G (zA G K)) {r : Int32} (a0 : Nat) (h : zH) : ∀ (n : Nat) (w : Int32 × Int32), zloop (g_Orders_printOf_4 a0 h) n w = some r → ∀ (H : Heap) (locs : List Loc) (ls : Array Slot), zI G K s (zA G K) H locs h → lv_has ls 3 [(0, .ref (G.1 a0)), (1, .int w.1), (2, .int w.2)] → W p l e (zR 0) s m args below meth c H locs 0 0 (MQ below (zQi G K r h) args s 0 0 (zA G K)) (F0 m 4 ls []) := by
  intro n
  induction n with
  | zero => intro w hm; cases hm
  | succ n ih => intro w hm H locs ls hI hl; exact r_Orders_printOf_4_b X a0 h (zloop (g_Orders_printOf_4 a0 h) n) ih w (zls hm) hI hl
set_option maxHeartbeats 4000000 in
set_option maxRecDepth 100000 in
theorem r_Orders_printOf_0 {p : Program} {l : Launch} {e : Env} {s : State} {m : MethodId} {args : Array Value} {below : List Frame} {meth : Method} {c : Code} {G : zG} {K : Nat} (X : zX p s m args meth c "AllHome$Orders" prog_4_method_10_code 3 (some .int) G (zA G K)) {r : Int32} (a0 : Nat) (h : zH) (hm : m_Orders_printOf a0 h = some r) {H : Heap} {locs : List Loc} {ls : Array Slot} (hI : zI G K s (zA G K) H locs h) (hl : lv_has ls 3 [(0, .ref (G.1 a0))]) : W p l e (zR 0) s m args below meth c H locs 0 0 (MQ below (zQi G K r h) args s 0 0 (zA G K)) (F0 m 0 ls []) := by
  obtain ⟨hx, hb, hml, hown, hts, hr, hlocks, hK, hST, hNs⟩ := id X
  unfold m_Orders_printOf at hm
  refine lv_iconst (v := (nI 0)) hx hb d_Orders_printOf_0 (by decide) ?_
  refine lv_istore_n (lv' := [(1, .int (nI 0)), (0, .ref (G.1 a0))]) hx hb d_Orders_printOf_1 rfl hl (by decide) rfl (fun ls hl => ?_)
  refine lv_iconst (v := (nI 0)) hx hb d_Orders_printOf_2 (by decide) ?_
  refine lv_istore_n (lv' := [(2, .int (nI 0)), (1, .int (nI 0)), (0, .ref (G.1 a0))]) hx hb d_Orders_printOf_3 rfl hl (by decide) rfl (fun ls hl => ?_)
  exact r_Orders_printOf_4 X a0 h zN ((nI 0), (nI 0)) hm _ _ _ hI (lv_sub hl [2, 1, 0] rfl)
set_option maxHeartbeats 4000000 in
set_option maxRecDepth 100000 in
theorem c_Orders_printOf (l : Launch) (G : zG) (K : Nat) (a0 : Nat) (h : zH) (r : Int32) (hm : m_Orders_printOf a0 h = some r) : zMi l G K y_Orders_printOf prog_4_method_10_code 3 0 [.ref (G.1 a0)] h r h := zMet (by decide +kernel) (Nat.le_of_ble_eq_true rfl) (fun p e s m below meth c ls X hI hl => r_Orders_printOf_0 X a0 h hm hI hl)
-- walk of AllHome$Orders.addSpare
theorem d_Orders_addSpare_0 : decode prog_4_method_9_code 0 = .ok (.aload_n 0, 1) := by decide +kernel
theorem d_Orders_addSpare_1 : decode prog_4_method_9_code 1 = .ok (.getfield 63, 3) := by decide +kernel
theorem d_Orders_addSpare_4 : decode prog_4_method_9_code 4 = .ok (.sipush 150, 3) := by decide +kernel
theorem d_Orders_addSpare_7 : decode prog_4_method_9_code 7 = .ok (.if_icmp .lt 10, 3) := by decide +kernel
theorem d_Orders_addSpare_10 : decode prog_4_method_9_code 10 = .ok (.aload_n 0, 1) := by decide +kernel
theorem d_Orders_addSpare_11 : decode prog_4_method_9_code 11 = .ok (.iconst 1, 1) := by decide +kernel
theorem d_Orders_addSpare_12 : decode prog_4_method_9_code 12 = .ok (.putfield 59, 3) := by decide +kernel
theorem d_Orders_addSpare_15 : decode prog_4_method_9_code 15 = .ok (.iconst (-1), 1) := by decide +kernel
theorem d_Orders_addSpare_16 : decode prog_4_method_9_code 16 = .ok (.ireturn, 1) := by decide +kernel
theorem d_Orders_addSpare_17 : decode prog_4_method_9_code 17 = .ok (.aload_n 0, 1) := by decide +kernel
theorem d_Orders_addSpare_18 : decode prog_4_method_9_code 18 = .ok (.getfield 39, 3) := by decide +kernel
theorem d_Orders_addSpare_21 : decode prog_4_method_9_code 21 = .ok (.iconst 0, 1) := by decide +kernel
theorem d_Orders_addSpare_22 : decode prog_4_method_9_code 22 = .ok (.aload_n 0, 1) := by decide +kernel
theorem d_Orders_addSpare_23 : decode prog_4_method_9_code 23 = .ok (.getfield 13, 3) := by decide +kernel
theorem d_Orders_addSpare_26 : decode prog_4_method_9_code 26 = .ok (.aload_n 0, 1) := by decide +kernel
theorem d_Orders_addSpare_27 : decode prog_4_method_9_code 27 = .ok (.getfield 63, 3) := by decide +kernel
theorem d_Orders_addSpare_30 : decode prog_4_method_9_code 30 = .ok (.aaload, 1) := by decide +kernel
theorem d_Orders_addSpare_31 : decode prog_4_method_9_code 31 = .ok (.iconst 0, 1) := by decide +kernel
theorem d_Orders_addSpare_32 : decode prog_4_method_9_code 32 = .ok (.bipush 123, 2) := by decide +kernel
theorem d_Orders_addSpare_34 : decode prog_4_method_9_code 34 = .ok (.invokestatic 87, 3) := by decide +kernel
theorem d_Orders_addSpare_37 : decode prog_4_method_9_code 37 = .ok (.aload_n 0, 1) := by decide +kernel
theorem d_Orders_addSpare_38 : decode prog_4_method_9_code 38 = .ok (.getfield 16, 3) := by decide +kernel
theorem d_Orders_addSpare_41 : decode prog_4_method_9_code 41 = .ok (.aload_n 0, 1) := by decide +kernel
theorem d_Orders_addSpare_42 : decode prog_4_method_9_code 42 = .ok (.getfield 63, 3) := by decide +kernel
theorem d_Orders_addSpare_45 : decode prog_4_method_9_code 45 = .ok (.aload_n 0, 1) := by decide +kernel
theorem d_Orders_addSpare_46 : decode prog_4_method_9_code 46 = .ok (.getfield 39, 3) := by decide +kernel
theorem d_Orders_addSpare_49 : decode prog_4_method_9_code 49 = .ok (.invokestatic 100, 3) := by decide +kernel
theorem d_Orders_addSpare_52 : decode prog_4_method_9_code 52 = .ok (.iastore, 1) := by decide +kernel
theorem d_Orders_addSpare_53 : decode prog_4_method_9_code 53 = .ok (.aload_n 0, 1) := by decide +kernel
theorem d_Orders_addSpare_54 : decode prog_4_method_9_code 54 = .ok (.getfield 20, 3) := by decide +kernel
theorem d_Orders_addSpare_57 : decode prog_4_method_9_code 57 = .ok (.aload_n 0, 1) := by decide +kernel
theorem d_Orders_addSpare_58 : decode prog_4_method_9_code 58 = .ok (.getfield 63, 3) := by decide +kernel
theorem d_Orders_addSpare_61 : decode prog_4_method_9_code 61 = .ok (.iload_n 1, 1) := by decide +kernel
theorem d_Orders_addSpare_62 : decode prog_4_method_9_code 62 = .ok (.iastore, 1) := by decide +kernel
theorem d_Orders_addSpare_63 : decode prog_4_method_9_code 63 = .ok (.aload_n 0, 1) := by decide +kernel
theorem d_Orders_addSpare_64 : decode prog_4_method_9_code 64 = .ok (.getfield 23, 3) := by decide +kernel
theorem d_Orders_addSpare_67 : decode prog_4_method_9_code 67 = .ok (.aload_n 0, 1) := by decide +kernel
theorem d_Orders_addSpare_68 : decode prog_4_method_9_code 68 = .ok (.getfield 63, 3) := by decide +kernel
theorem d_Orders_addSpare_71 : decode prog_4_method_9_code 71 = .ok (.iload_n 2, 1) := by decide +kernel
theorem d_Orders_addSpare_72 : decode prog_4_method_9_code 72 = .ok (.iastore, 1) := by decide +kernel
theorem d_Orders_addSpare_73 : decode prog_4_method_9_code 73 = .ok (.aload_n 0, 1) := by decide +kernel
theorem d_Orders_addSpare_74 : decode prog_4_method_9_code 74 = .ok (.getfield 26, 3) := by decide +kernel
theorem d_Orders_addSpare_77 : decode prog_4_method_9_code 77 = .ok (.aload_n 0, 1) := by decide +kernel
theorem d_Orders_addSpare_78 : decode prog_4_method_9_code 78 = .ok (.getfield 63, 3) := by decide +kernel
theorem d_Orders_addSpare_81 : decode prog_4_method_9_code 81 = .ok (.iload_n 1, 1) := by decide +kernel
theorem d_Orders_addSpare_82 : decode prog_4_method_9_code 82 = .ok (.ifCond .lt 22, 3) := by decide +kernel
theorem d_Orders_addSpare_85 : decode prog_4_method_9_code 85 = .ok (.iload_n 1, 1) := by decide +kernel
theorem d_Orders_addSpare_86 : decode prog_4_method_9_code 86 = .ok (.aload_n 0, 1) := by decide +kernel
theorem d_Orders_addSpare_87 : decode prog_4_method_9_code 87 = .ok (.getfield 63, 3) := by decide +kernel
theorem d_Orders_addSpare_90 : decode prog_4_method_9_code 90 = .ok (.if_icmp .ge 14, 3) := by decide +kernel
theorem d_Orders_addSpare_93 : decode prog_4_method_9_code 93 = .ok (.aload_n 0, 1) := by decide +kernel
theorem d_Orders_addSpare_94 : decode prog_4_method_9_code 94 = .ok (.getfield 26, 3) := by decide +kernel
theorem d_Orders_addSpare_97 : decode prog_4_method_9_code 97 = .ok (.iload_n 1, 1) := by decide +kernel
theorem d_Orders_addSpare_98 : decode prog_4_method_9_code 98 = .ok (.iaload, 1) := by decide +kernel
theorem d_Orders_addSpare_99 : decode prog_4_method_9_code 99 = .ok (.iconst 1, 1) := by decide +kernel
theorem d_Orders_addSpare_100 : decode prog_4_method_9_code 100 = .ok (.iadd, 1) := by decide +kernel
theorem d_Orders_addSpare_101 : decode prog_4_method_9_code 101 = .ok (.goto 4, 3) := by decide +kernel
theorem d_Orders_addSpare_104 : decode prog_4_method_9_code 104 = .ok (.iconst 0, 1) := by decide +kernel
theorem d_Orders_addSpare_105 : decode prog_4_method_9_code 105 = .ok (.iastore, 1) := by decide +kernel
theorem d_Orders_addSpare_106 : decode prog_4_method_9_code 106 = .ok (.aload_n 0, 1) := by decide +kernel
theorem d_Orders_addSpare_107 : decode prog_4_method_9_code 107 = .ok (.getfield 32, 3) := by decide +kernel
theorem d_Orders_addSpare_110 : decode prog_4_method_9_code 110 = .ok (.aload_n 0, 1) := by decide +kernel
theorem d_Orders_addSpare_111 : decode prog_4_method_9_code 111 = .ok (.getfield 63, 3) := by decide +kernel
theorem d_Orders_addSpare_114 : decode prog_4_method_9_code 114 = .ok (.iconst 0, 1) := by decide +kernel
theorem d_Orders_addSpare_115 : decode prog_4_method_9_code 115 = .ok (.iastore, 1) := by decide +kernel
theorem d_Orders_addSpare_116 : decode prog_4_method_9_code 116 = .ok (.aload_n 0, 1) := by decide +kernel
theorem d_Orders_addSpare_117 : decode prog_4_method_9_code 117 = .ok (.dup, 1) := by decide +kernel
theorem d_Orders_addSpare_118 : decode prog_4_method_9_code 118 = .ok (.getfield 63, 3) := by decide +kernel
theorem d_Orders_addSpare_121 : decode prog_4_method_9_code 121 = .ok (.iconst 1, 1) := by decide +kernel
theorem d_Orders_addSpare_122 : decode prog_4_method_9_code 122 = .ok (.iadd, 1) := by decide +kernel
theorem d_Orders_addSpare_123 : decode prog_4_method_9_code 123 = .ok (.putfield 63, 3) := by decide +kernel
theorem d_Orders_addSpare_126 : decode prog_4_method_9_code 126 = .ok (.aload_n 0, 1) := by decide +kernel
theorem d_Orders_addSpare_127 : decode prog_4_method_9_code 127 = .ok (.getfield 63, 3) := by decide +kernel
theorem d_Orders_addSpare_130 : decode prog_4_method_9_code 130 = .ok (.iconst 1, 1) := by decide +kernel
theorem d_Orders_addSpare_131 : decode prog_4_method_9_code 131 = .ok (.isub, 1) := by decide +kernel
theorem d_Orders_addSpare_132 : decode prog_4_method_9_code 132 = .ok (.ireturn, 1) := by decide +kernel
set_option maxHeartbeats 4000000 in
set_option maxRecDepth 100000 in
theorem r_Orders_addSpare_105 {p : Program} {l : Launch} {e : Env} {s : State} {m : MethodId} {args : Array Value} {below : List Frame} {meth : Method} {c : Code} {G : zG} {K : Nat} (X : zX p s m args meth c "AllHome$Orders" prog_4_method_9_code 3 (some .int) G (zA G K)) {r : Int32} {h' : zH} (a0 : Nat) (c0 : Nat) (y1 : Int32) (y2 : Int32) (h : zH) (hm : g_Orders_addSpare_105 a0 c0 y1 y2 h = some (r, h')) {H : Heap} {locs : List Loc} {ls : Array Slot} (hI : zI G K s (zA G K) H locs h) (hl : lv_has ls 3 [(0, .ref (G.1 a0))]) : W p l e (zR 1) s m args below meth c H locs 0 0 (MQ below (zQi G K r h') args s 0 0 (zA G K)) (F0 m 105 ls [.int y2, .int y1, .ref (G.1 c0)]) := by
  obtain ⟨hx, hb, hml, hown, hts, hr, hlocks, hK, hST, hNs⟩ := id X
  unfold g_Orders_addSpare_105 at hm
  obtain ⟨h105, hv, hm⟩ := zbd hm
  refine z_iast X hI hv d_Orders_addSpare_105 (fun H locs hI => ?_)
  refine lv_aload_n hx hb d_Orders_addSpare_106 rfl (lv_at hl 0 rfl) ?_
  obtain ⟨v107, hv, hm⟩ := zbd hm
  refine z_getR X hI F_Orders_32 hv d_Orders_addSpare_107 ?_
  refine lv_aload_n hx hb d_Orders_addSpare_110 rfl (lv_at hl 0 rfl) ?_
  obtain ⟨v111, hv, hm⟩ := zbd hm
  refine z_getI X hI F_Orders_63 hv d_Orders_addSpare_111 ?_
  refine lv_iconst (v := (nI 0)) hx hb d_Orders_addSpare_114 (by decide) ?_
  obtain ⟨h115, hv, hm⟩ := zbd hm
  refine z_iast X hI hv d_Orders_addSpare_115 (fun H locs hI => ?_)
  refine lv_aload_n hx hb d_Orders_addSpare_116 rfl (lv_at hl 0 rfl) ?_
  refine lv_dup hx hb d_Orders_addSpare_117 rfl ?_
  obtain ⟨v118, hv, hm⟩ := zbd hm
  refine z_getI X hI F_Orders_63 hv d_Orders_addSpare_118 ?_
  refine lv_iconst (v := (nI 1)) hx hb d_Orders_addSpare_121 (by decide) ?_
  refine lv_iadd hx hb d_Orders_addSpare_122 ?_
  obtain ⟨h123, hv, hm⟩ := zbd hm
  refine z_putI X hI P_Orders_63 hv d_Orders_addSpare_123 (fun H locs hI => ?_)
  refine lv_aload_n hx hb d_Orders_addSpare_126 rfl (lv_at hl 0 rfl) ?_
  obtain ⟨v127, hv, hm⟩ := zbd hm
  refine z_getI X hI F_Orders_63 hv d_Orders_addSpare_127 ?_
  refine lv_iconst (v := (nI 1)) hx hb d_Orders_addSpare_130 (by decide) ?_
  refine lv_isub hx hb d_Orders_addSpare_131 ?_
  obtain ⟨rfl, rfl⟩ := zs2 hm
  exact z_iret X hI d_Orders_addSpare_132
set_option maxHeartbeats 4000000 in
set_option maxRecDepth 100000 in
theorem r_Orders_addSpare_0 {p : Program} {l : Launch} {e : Env} {s : State} {m : MethodId} {args : Array Value} {below : List Frame} {meth : Method} {c : Code} {G : zG} {K : Nat} (X : zX p s m args meth c "AllHome$Orders" prog_4_method_9_code 3 (some .int) G (zA G K)) {r : Int32} {h' : zH} (a0 : Nat) (x1 : Int32) (x2 : Int32) (h : zH) (hm : m_Orders_addSpare a0 x1 x2 h = some (r, h')) {H : Heap} {locs : List Loc} {ls : Array Slot} (hI : zI G K s (zA G K) H locs h) (hl : lv_has ls 3 [(0, .ref (G.1 a0)), (1, .int x1), (2, .int x2)]) : W p l e (zR 1) s m args below meth c H locs 0 0 (MQ below (zQi G K r h') args s 0 0 (zA G K)) (F0 m 0 ls []) := by
  obtain ⟨hx, hb, hml, hown, hts, hr, hlocks, hK, hST, hNs⟩ := id X
  unfold m_Orders_addSpare at hm
  refine lv_aload_n hx hb d_Orders_addSpare_0 rfl (lv_at hl 0 rfl) ?_
  obtain ⟨v1, hv, hm⟩ := zbd hm
  refine z_getI X hI F_Orders_63 hv d_Orders_addSpare_1 ?_
  refine lv_sipush (v := (nI 150)) hx hb d_Orders_addSpare_4 (by decide) ?_
  refine lv_icmp_lt (tgt := 17) hx hb d_Orders_addSpare_7 (by decide) (fun hc7 => ?_) (fun hc7 => ?_)
  · replace hm := zif_t hc7 hm
    refine lv_aload_n hx hb d_Orders_addSpare_17 rfl (lv_at hl 0 rfl) ?_
    obtain ⟨v18, hv, hm⟩ := zbd hm
    refine z_getR X hI F_Orders_39 hv d_Orders_addSpare_18 ?_
    refine lv_iconst (v := (nI 0)) hx hb d_Orders_addSpare_21 (by decide) ?_
    refine lv_aload_n hx hb d_Orders_addSpare_22 rfl (lv_at hl 0 rfl) ?_
    obtain ⟨v23, hv, hm⟩ := zbd hm
    refine z_getR X hI F_Orders_13 hv d_Orders_addSpare_23 ?_
    refine lv_aload_n hx hb d_Orders_addSpare_26 rfl (lv_at hl 0 rfl) ?_
    obtain ⟨v27, hv, hm⟩ := zbd hm
    refine z_getI X hI F_Orders_63 hv d_Orders_addSpare_27 ?_
    obtain ⟨v30, hv, hm⟩ := zbd hm
    refine z_aald X hI 5 (.array .int) rfl rfl hv d_Orders_addSpare_30 ?_
    refine lv_iconst (v := (nI 0)) hx hb d_Orders_addSpare_31 (by decide) ?_
    refine lv_bipush (v := (nI 123)) hx hb d_Orders_addSpare_32 (by decide) ?_
    obtain ⟨h34, hv, hm⟩ := zbd hm
    refine z_cpI X hI hl.1 kw475 kw313 kw312 kw11 hv ⟨Nat.le_of_ble_eq_true rfl, Nat.le_of_ble_eq_true rfl⟩ d_Orders_addSpare_34 (fun H locs hI => ?_)
    refine lv_aload_n hx hb d_Orders_addSpare_37 rfl (lv_at hl 0 rfl) ?_
    obtain ⟨v38, hv, hm⟩ := zbd hm
    refine z_getR X hI F_Orders_16 hv d_Orders_addSpare_38 ?_
    refine lv_aload_n hx hb d_Orders_addSpare_41 rfl (lv_at hl 0 rfl) ?_
    obtain ⟨v42, hv, hm⟩ := zbd hm
    refine z_getI X hI F_Orders_63 hv d_Orders_addSpare_42 ?_
    refine lv_aload_n hx hb d_Orders_addSpare_45 rfl (lv_at hl 0 rfl) ?_
    obtain ⟨v46, hv, hm⟩ := zbd hm
    refine z_getR X hI F_Orders_39 hv d_Orders_addSpare_46 ?_
    obtain ⟨v49, hv, hm⟩ := zbd hm
    refine z_ci hI (z_runS (As := [.ref (G.1 v46)]) (rest := [.int v42, .ref (G.1 v38)]) X hI hl.1 (c_Orders_printOf l G K v46 h34 _ hv) C_Orders_100 rfl (Nat.le_of_ble_eq_true rfl) ⟨Nat.le_of_ble_eq_true rfl, Nat.le_of_ble_eq_true rfl, Nat.zero_le _, Nat.zero_le _⟩ rfl d_Orders_addSpare_49) (fun H locs hI => ?_)
    obtain ⟨h52, hv, hm⟩ := zbd hm
    refine z_iast X hI hv d_Orders_addSpare_52 (fun H locs hI => ?_)
    refine lv_aload_n hx hb d_Orders_addSpare_53 rfl (lv_at hl 0 rfl) ?_
    obtain ⟨v54, hv, hm⟩ := zbd hm
    refine z_getR X hI F_Orders_20 hv d_Orders_addSpare_54 ?_
    refine lv_aload_n hx hb d_Orders_addSpare_57 rfl (lv_at hl 0 rfl) ?_
    obtain ⟨v58, hv, hm⟩ := zbd hm
    refine z_getI X hI F_Orders_63 hv d_Orders_addSpare_58 ?_
    refine lv_iload_n hx hb d_Orders_addSpare_61 rfl (lv_at hl 1 rfl) ?_
    obtain ⟨h62, hv, hm⟩ := zbd hm
    refine z_iast X hI hv d_Orders_addSpare_62 (fun H locs hI => ?_)
    refine lv_aload_n hx hb d_Orders_addSpare_63 rfl (lv_at hl 0 rfl) ?_
    obtain ⟨v64, hv, hm⟩ := zbd hm
    refine z_getR X hI F_Orders_23 hv d_Orders_addSpare_64 ?_
    refine lv_aload_n hx hb d_Orders_addSpare_67 rfl (lv_at hl 0 rfl) ?_
    obtain ⟨v68, hv, hm⟩ := zbd hm
    refine z_getI X hI F_Orders_63 hv d_Orders_addSpare_68 ?_
    refine lv_iload_n hx hb d_Orders_addSpare_71 rfl (lv_at hl 2 rfl) ?_
    obtain ⟨h72, hv, hm⟩ := zbd hm
    refine z_iast X hI hv d_Orders_addSpare_72 (fun H locs hI => ?_)
    refine lv_aload_n hx hb d_Orders_addSpare_73 rfl (lv_at hl 0 rfl) ?_
    obtain ⟨v74, hv, hm⟩ := zbd hm
    refine z_getR X hI F_Orders_26 hv d_Orders_addSpare_74 ?_
    refine lv_aload_n hx hb d_Orders_addSpare_77 rfl (lv_at hl 0 rfl) ?_
    obtain ⟨v78, hv, hm⟩ := zbd hm
    refine z_getI X hI F_Orders_63 hv d_Orders_addSpare_78 ?_
    refine lv_iload_n hx hb d_Orders_addSpare_81 rfl (lv_at hl 1 rfl) ?_
    refine lv_if_lt (tgt := 104) hx hb d_Orders_addSpare_82 (by decide) (fun hc82 => ?_) (fun hc82 => ?_)
    · replace hm := zif_t hc82 hm
      refine lv_iconst (v := (nI 0)) hx hb d_Orders_addSpare_104 (by decide) ?_
      exact r_Orders_addSpare_105 X a0 v74 v78 (nI 0) h72 hm hI (lv_sub hl [0] rfl)
    · replace hm := zif_f hc82 hm
      refine lv_iload_n hx hb d_Orders_addSpare_85 rfl (lv_at hl 1 rfl) ?_
      refine lv_aload_n hx hb d_Orders_addSpare_86 rfl (lv_at hl 0 rfl) ?_
      obtain ⟨v87, hv, hm⟩ := zbd hm
      refine z_getI X hI F_Orders_63 hv d_Orders_addSpare_87 ?_
      refine lv_icmp_ge (tgt := 104) hx hb d_Orders_addSpare_90 (by decide) (fun hc90 => ?_) (fun hc90 => ?_)
      · replace hm := zif_t hc90 hm
        refine lv_iconst (v := (nI 0)) hx hb d_Orders_addSpare_104 (by decide) ?_
        exact r_Orders_addSpare_105 X a0 v74 v78 (nI 0) h72 hm hI (lv_sub hl [0] rfl)
      · replace hm := zif_f hc90 hm
        refine lv_aload_n hx hb d_Orders_addSpare_93 rfl (lv_at hl 0 rfl) ?_
        obtain ⟨v94, hv, hm⟩ := zbd hm
        refine z_getR X hI F_Orders_26 hv d_Orders_addSpare_94 ?_
        refine lv_iload_n hx hb d_Orders_addSpare_97 rfl (lv_at hl 1 rfl) ?_
        obtain ⟨v98, hv, hm⟩ := zbd hm
        refine z_iald X hI hv d_Orders_addSpare_98 ?_
        refine lv_iconst (v := (nI 1)) hx hb d_Orders_addSpare_99 (by decide) ?_
        refine lv_iadd hx hb d_Orders_addSpare_100 ?_
        refine lv_goto (tgt := 105) hx hb d_Orders_addSpare_101 (by decide) ?_
        exact r_Orders_addSpare_105 X a0 v74 v78 (v98 + (nI 1)) h72 hm hI (lv_sub hl [0] rfl)
  · replace hm := zif_f hc7 hm
    refine lv_aload_n hx hb d_Orders_addSpare_10 rfl (lv_at hl 0 rfl) ?_
    refine lv_iconst (v := (nI 1)) hx hb d_Orders_addSpare_11 (by decide) ?_
    obtain ⟨h12, hv, hm⟩ := zbd hm
    refine z_putZ X hI P_Orders_59 hv d_Orders_addSpare_12 (fun H locs hI => ?_)
    refine lv_iconst (v := (-1 : Int32)) hx hb d_Orders_addSpare_15 (by decide) ?_
    obtain ⟨rfl, rfl⟩ := zs2 hm
    exact z_iret X hI d_Orders_addSpare_16
set_option maxHeartbeats 4000000 in
set_option maxRecDepth 100000 in
theorem c_Orders_addSpare (l : Launch) (G : zG) (K : Nat) (a0 : Nat) (x1 : Int32) (x2 : Int32) (h : zH) (r : Int32) (h' : zH) (hm : m_Orders_addSpare a0 x1 x2 h = some (r, h')) : zMi l G K y_Orders_addSpare prog_4_method_9_code 3 1 [.ref (G.1 a0), .int x1, .int x2] h r h' := zMet (by decide +kernel) (Nat.le_of_ble_eq_true rfl) (fun p e s m below meth c ls X hI hl => r_Orders_addSpare_0 X a0 x1 x2 h hm hI hl)
-- walk of AllHome$Orders.numbersOf
theorem d_Orders_numbersOf_0 : decode prog_4_method_6_code 0 = .ok (.iload_n 2, 1) := by decide +kernel
theorem d_Orders_numbersOf_1 : decode prog_4_method_6_code 1 = .ok (.tableswitch 45 0 2 #[27, 35, 40], 27) := by decide +kernel
theorem d_Orders_numbersOf_28 : decode prog_4_method_6_code 28 = .ok (.aload_n 0, 1) := by decide +kernel
theorem d_Orders_numbersOf_29 : decode prog_4_method_6_code 29 = .ok (.getfield 46, 3) := by decide +kernel
theorem d_Orders_numbersOf_32 : decode prog_4_method_6_code 32 = .ok (.invokevirtual 66, 3) := by decide +kernel
theorem d_Orders_numbersOf_35 : decode prog_4_method_6_code 35 = .ok (.ireturn, 1) := by decide +kernel
theorem d_Orders_numbersOf_36 : decode prog_4_method_6_code 36 = .ok (.aload_n 1, 1) := by decide +kernel
theorem d_Orders_numbersOf_37 : decode prog_4_method_6_code 37 = .ok (.bipush 18, 2) := by decide +kernel
theorem d_Orders_numbersOf_39 : decode prog_4_method_6_code 39 = .ok (.iaload, 1) := by decide +kernel
theorem d_Orders_numbersOf_40 : decode prog_4_method_6_code 40 = .ok (.ireturn, 1) := by decide +kernel
theorem d_Orders_numbersOf_41 : decode prog_4_method_6_code 41 = .ok (.aload_n 1, 1) := by decide +kernel
theorem d_Orders_numbersOf_42 : decode prog_4_method_6_code 42 = .ok (.bipush 43, 2) := by decide +kernel
theorem d_Orders_numbersOf_44 : decode prog_4_method_6_code 44 = .ok (.iaload, 1) := by decide +kernel
theorem d_Orders_numbersOf_45 : decode prog_4_method_6_code 45 = .ok (.ireturn, 1) := by decide +kernel
theorem d_Orders_numbersOf_46 : decode prog_4_method_6_code 46 = .ok (.iconst 1, 1) := by decide +kernel
theorem d_Orders_numbersOf_47 : decode prog_4_method_6_code 47 = .ok (.ireturn, 1) := by decide +kernel
set_option maxHeartbeats 4000000 in
set_option maxRecDepth 100000 in
theorem r_Orders_numbersOf_0 {p : Program} {l : Launch} {e : Env} {s : State} {m : MethodId} {args : Array Value} {below : List Frame} {meth : Method} {c : Code} {G : zG} {K : Nat} (X : zX p s m args meth c "AllHome$Orders" prog_4_method_6_code 3 (some .int) G (zA G K)) {r : Int32} (a0 : Nat) (a1 : Nat) (x2 : Int32) (h : zH) (hm : m_Orders_numbersOf a0 a1 x2 h = some r) {H : Heap} {locs : List Loc} {ls : Array Slot} (hI : zI G K s (zA G K) H locs h) (hl : lv_has ls 3 [(0, .ref (G.1 a0)), (1, .ref (G.1 a1)), (2, .int x2)]) : W p l e (zR 1) s m args below meth c H locs 0 0 (MQ below (zQi G K r h) args s 0 0 (zA G K)) (F0 m 0 ls []) := by
  obtain ⟨hx, hb, hml, hown, hts, hr, hlocks, hK, hST, hNs⟩ := id X
  unfold m_Orders_numbersOf at hm
  refine lv_iload_n hx hb d_Orders_numbersOf_0 rfl (lv_at hl 2 rfl) ?_
  by_cases hs1_0 : x2 = (nI 0)
  · replace hm := zif_t hs1_0 hm
    refine lv_tableIn (off := 27) (tgt := 28) hx hb d_Orders_numbersOf_1 (by rw [hs1_0]; decide) (by rw [hs1_0]; decide) (by rw [hs1_0]; rfl) (by decide) ?_
    refine lv_aload_n hx hb d_Orders_numbersOf_28 rfl (lv_at hl 0 rfl) ?_
    obtain ⟨v29, hv, hm⟩ := zbd hm
    refine z_getR X hI F_Orders_46 hv d_Orders_numbersOf_29 ?_
    obtain ⟨v32, hv, hm⟩ := zbd hm
    obtain ⟨hq, hv⟩ := zcv_at hv
    refine z_ci hI (z_runV (As := []) (rest := []) X hI hl.1 (c_Huts_size l G K v29 h _ hv) C_Orders_66 rfl hq (Nat.le_of_ble_eq_true rfl) ⟨Nat.le_of_ble_eq_true rfl, Nat.le_of_ble_eq_true rfl, Nat.zero_le _, Nat.zero_le _⟩ rfl d_Orders_numbersOf_32) (fun H locs hI => ?_)
    obtain rfl := zs1 hm
    exact z_iret X hI d_Orders_numbersOf_35
  · replace hm := zif_f hs1_0 hm
    by_cases hs1_1 : x2 = (nI 1)
    · replace hm := zif_t hs1_1 hm
      refine lv_tableIn (off := 35) (tgt := 36) hx hb d_Orders_numbersOf_1 (by rw [hs1_1]; decide) (by rw [hs1_1]; decide) (by rw [hs1_1]; rfl) (by decide) ?_
      refine lv_aload_n hx hb d_Orders_numbersOf_36 rfl (lv_at hl 1 rfl) ?_
      refine lv_bipush (v := (nI 18)) hx hb d_Orders_numbersOf_37 (by decide) ?_
      obtain ⟨v39, hv, hm⟩ := zbd hm
      refine z_iald X hI hv d_Orders_numbersOf_39 ?_
      obtain rfl := zs1 hm
      exact z_iret X hI d_Orders_numbersOf_40
    · replace hm := zif_f hs1_1 hm
      by_cases hs1_2 : x2 = (nI 2)
      · replace hm := zif_t hs1_2 hm
        refine lv_tableIn (off := 40) (tgt := 41) hx hb d_Orders_numbersOf_1 (by rw [hs1_2]; decide) (by rw [hs1_2]; decide) (by rw [hs1_2]; rfl) (by decide) ?_
        refine lv_aload_n hx hb d_Orders_numbersOf_41 rfl (lv_at hl 1 rfl) ?_
        refine lv_bipush (v := (nI 43)) hx hb d_Orders_numbersOf_42 (by decide) ?_
        obtain ⟨v44, hv, hm⟩ := zbd hm
        refine z_iald X hI hv d_Orders_numbersOf_44 ?_
        obtain rfl := zs1 hm
        exact z_iret X hI d_Orders_numbersOf_45
      · replace hm := zif_f hs1_2 hm
        have he0 : (x2).toInt ≠ 0 := fun q => hs1_0 (Int32.toInt_inj.mp (q.trans (by decide)))
        have he1 : (x2).toInt ≠ 1 := fun q => hs1_1 (Int32.toInt_inj.mp (q.trans (by decide)))
        have he2 : (x2).toInt ≠ 2 := fun q => hs1_2 (Int32.toInt_inj.mp (q.trans (by decide)))
        refine lv_tableOut (tgt := 46) hx hb d_Orders_numbersOf_1 (by omega) (by decide) ?_
        refine lv_iconst (v := (nI 1)) hx hb d_Orders_numbersOf_46 (by decide) ?_
        obtain rfl := zs1 hm
        exact z_iret X hI d_Orders_numbersOf_47
set_option maxHeartbeats 4000000 in
set_option maxRecDepth 100000 in
theorem c_Orders_numbersOf (l : Launch) (G : zG) (K : Nat) (a0 : Nat) (a1 : Nat) (x2 : Int32) (h : zH) (r : Int32) (hm : m_Orders_numbersOf a0 a1 x2 h = some r) : zMi l G K y_Orders_numbersOf prog_4_method_6_code 3 1 [.ref (G.1 a0), .ref (G.1 a1), .int x2] h r h := zMet (by decide +kernel) (Nat.le_of_ble_eq_true rfl) (fun p e s m below meth c ls X hI hl => r_Orders_numbersOf_0 X a0 a1 x2 h hm hI hl)
-- walk of AllHome$Orders.alike
theorem d_Orders_alike_0 : decode prog_4_method_11_code 0 = .ok (.iconst 0, 1) := by decide +kernel
theorem d_Orders_alike_1 : decode prog_4_method_11_code 1 = .ok (.istore_n 3, 1) := by decide +kernel
theorem d_Orders_alike_2 : decode prog_4_method_11_code 2 = .ok (.iload_n 3, 1) := by decide +kernel
theorem d_Orders_alike_3 : decode prog_4_method_11_code 3 = .ok (.iload_n 2, 1) := by decide +kernel
theorem d_Orders_alike_4 : decode prog_4_method_11_code 4 = .ok (.if_icmp .ge 20, 3) := by decide +kernel
theorem d_Orders_alike_7 : decode prog_4_method_11_code 7 = .ok (.aload_n 0, 1) := by decide +kernel
theorem d_Orders_alike_8 : decode prog_4_method_11_code 8 = .ok (.iload_n 3, 1) := by decide +kernel
theorem d_Orders_alike_9 : decode prog_4_method_11_code 9 = .ok (.iaload, 1) := by decide +kernel
theorem d_Orders_alike_10 : decode prog_4_method_11_code 10 = .ok (.aload_n 1, 1) := by decide +kernel
theorem d_Orders_alike_11 : decode prog_4_method_11_code 11 = .ok (.iload_n 3, 1) := by decide +kernel
theorem d_Orders_alike_12 : decode prog_4_method_11_code 12 = .ok (.iaload, 1) := by decide +kernel
theorem d_Orders_alike_13 : decode prog_4_method_11_code 13 = .ok (.if_icmp .eq 5, 3) := by decide +kernel
theorem d_Orders_alike_16 : decode prog_4_method_11_code 16 = .ok (.iconst 0, 1) := by decide +kernel
theorem d_Orders_alike_17 : decode prog_4_method_11_code 17 = .ok (.ireturn, 1) := by decide +kernel
theorem d_Orders_alike_18 : decode prog_4_method_11_code 18 = .ok (.iinc 3 1, 3) := by decide +kernel
theorem d_Orders_alike_21 : decode prog_4_method_11_code 21 = .ok (.goto (-19), 3) := by decide +kernel
theorem d_Orders_alike_24 : decode prog_4_method_11_code 24 = .ok (.iconst 1, 1) := by decide +kernel
theorem d_Orders_alike_25 : decode prog_4_method_11_code 25 = .ok (.ireturn, 1) := by decide +kernel
set_option maxHeartbeats 4000000 in
set_option maxRecDepth 100000 in
theorem r_Orders_alike_2_b {p : Program} {l : Launch} {e : Env} {s : State} {m : MethodId} {args : Array Value} {below : List Frame} {meth : Method} {c : Code} {G : zG} {K : Nat} (X : zX p s m args meth c "AllHome$Orders" prog_4_method_11_code 4 (some .boolean) G (zA G K)) {r : Int32} (a0 : Nat) (a1 : Nat) (x2 : Int32) (h : zH) (k2 : (Int32) → Option Int32) (hk2 : ∀ (w : Int32), k2 w = some r → ∀ (H : Heap) (locs : List Loc) (ls : Array Slot), zI G K s (zA G K) H locs h → lv_has ls 4 [(0, .ref (G.1 a0)), (1, .ref (G.1 a1)), (2, .int x2), (3, .int w)] → W p l e (zR 0) s m args below meth c H locs 0 0 (MQ below (zQi G K r h) args s 0 0 (zA G K)) (F0 m 2 ls [])) (u : Int32) (hm : g_Orders_alike_2 a0 a1 x2 h k2 u = some r) {H : Heap} {locs : List Loc} {ls : Array Slot} (hI : zI G K s (zA G K) H locs h) (hl : lv_has ls 4 [(0, .ref (G.1 a0)), (1, .ref (G.1 a1)), (2, .int x2), (3, .int u)]) : W p l e (zR 0) s m args below meth c H locs 0 0 (MQ below (zQi G K r h) args s 0 0 (zA G K)) (F0 m 2 ls []) := by
  obtain ⟨hx, hb, hml, hown, hts, hr, hlocks, hK, hST, hNs⟩ := id X
  unfold g_Orders_alike_2 at hm
  refine lv_iload_n hx hb d_Orders_alike_2 rfl (lv_at hl 3 rfl) ?_
  refine lv_iload_n hx hb d_Orders_alike_3 rfl (lv_at hl 2 rfl) ?_
  refine lv_icmp_ge (tgt := 24) hx hb d_Orders_alike_4 (by decide) (fun hc4 => ?_) (fun hc4 => ?_)
  · replace hm := zif_t hc4 hm
    refine lv_iconst (v := (nI 1)) hx hb d_Orders_alike_24 (by decide) ?_
    obtain rfl := zs1 hm
    exact z_zret X hI (by decide) d_Orders_alike_25
  · replace hm := zif_f hc4 hm
    refine lv_aload_n hx hb d_Orders_alike_7 rfl (lv_at hl 0 rfl) ?_
    refine lv_iload_n hx hb d_Orders_alike_8 rfl (lv_at hl 3 rfl) ?_
    obtain ⟨v9, hv, hm⟩ := zbd hm
    refine z_iald X hI hv d_Orders_alike_9 ?_
    refine lv_aload_n hx hb d_Orders_alike_10 rfl (lv_at hl 1 rfl) ?_
    refine lv_iload_n hx hb d_Orders_alike_11 rfl (lv_at hl 3 rfl) ?_
    obtain ⟨v12, hv, hm⟩ := zbd hm
    refine z_iald X hI hv d_Orders_alike_12 ?_
    refine lv_icmp_eq (tgt := 18) hx hb d_Orders_alike_13 (by decide) (fun hc13 => ?_) (fun hc13 => ?_)
    · replace hm := zif_t hc13 hm
      refine lv_iinc (v := (u + (nI 1))) (lv' := [(3, .int (u + (nI 1))), (0, .ref (G.1 a0)), (1, .ref (G.1 a1)), (2, .int x2)]) hx hb d_Orders_alike_18 hl (k := 3) rfl (congrArg (fun z => u + z) (show Int32.ofInt (1) = (nI 1) by decide)) (by decide) rfl (fun ls hl => ?_)
      refine lv_goto (tgt := 2) hx hb d_Orders_alike_21 (by decide) ?_
      obtain ⟨g0, e0⟩ : ∃ z, z = (u + (nI 1)) := ⟨_, rfl⟩
      rw [← e0] at hm hl
      exact hk2 g0 hm _ _ _ hI (lv_sub hl [1, 2, 3, 0] rfl)
    · replace hm := zif_f hc13 hm
      refine lv_iconst (v := (nI 0)) hx hb d_Orders_alike_16 (by decide) ?_
      obtain rfl := zs1 hm
      exact z_zret X hI (by decide) d_Orders_alike_17
theorem r_Orders_alike_2 {p : Program} {l : Launch} {e : Env} {s : State} {m : MethodId} {args : Array Value} {below : List Frame} {meth : Method} {c : Code} {G : zG} {K : Nat} (X : zX p s m args meth c "AllHome$Orders" prog_4_method_11_code 4 (some .boolean) G (zA G K)) {r : Int32} (a0 : Nat) (a1 : Nat) (x2 : Int32) (h : zH) : ∀ (n : Nat) (w : Int32), zloop (g_Orders_alike_2 a0 a1 x2 h) n w = some r → ∀ (H : Heap) (locs : List Loc) (ls : Array Slot), zI G K s (zA G K) H locs h → lv_has ls 4 [(0, .ref (G.1 a0)), (1, .ref (G.1 a1)), (2, .int x2), (3, .int w)] → W p l e (zR 0) s m args below meth c H locs 0 0 (MQ below (zQi G K r h) args s 0 0 (zA G K)) (F0 m 2 ls []) := by
  intro n
  induction n with
  | zero => intro w hm; cases hm
  | succ n ih => intro w hm H locs ls hI hl; exact r_Orders_alike_2_b X a0 a1 x2 h (zloop (g_Orders_alike_2 a0 a1 x2 h) n) ih w (zls hm) hI hl
set_option maxHeartbeats 4000000 in
set_option maxRecDepth 100000 in
theorem r_Orders_alike_0 {p : Program} {l : Launch} {e : Env} {s : State} {m : MethodId} {args : Array Value} {below : List Frame} {meth : Method} {c : Code} {G : zG} {K : Nat} (X : zX p s m args meth c "AllHome$Orders" prog_4_method_11_code 4 (some .boolean) G (zA G K)) {r : Int32} (a0 : Nat) (a1 : Nat) (x2 : Int32) (h : zH) (hm : m_Orders_alike a0 a1 x2 h = some r) {H : Heap} {locs : List Loc} {ls : Array Slot} (hI : zI G K s (zA G K) H locs h) (hl : lv_has ls 4 [(0, .ref (G.1 a0)), (1, .ref (G.1 a1)), (2, .int x2)]) : W p l e (zR 0) s m args below meth c H locs 0 0 (MQ below (zQi G K r h) args s 0 0 (zA G K)) (F0 m 0 ls []) := by
  obtain ⟨hx, hb, hml, hown, hts, hr, hlocks, hK, hST, hNs⟩ := id X
  unfold m_Orders_alike at hm
  refine lv_iconst (v := (nI 0)) hx hb d_Orders_alike_0 (by decide) ?_
  refine lv_istore_n (lv' := [(3, .int (nI 0)), (0, .ref (G.1 a0)), (1, .ref (G.1 a1)), (2, .int x2)]) hx hb d_Orders_alike_1 rfl hl (by decide) rfl (fun ls hl => ?_)
  exact r_Orders_alike_2 X a0 a1 x2 h zN (nI 0) hm _ _ _ hI (lv_sub hl [1, 2, 3, 0] rfl)
set_option maxHeartbeats 4000000 in
set_option maxRecDepth 100000 in
theorem c_Orders_alike (l : Launch) (G : zG) (K : Nat) (a0 : Nat) (a1 : Nat) (x2 : Int32) (h : zH) (r : Int32) (hm : m_Orders_alike a0 a1 x2 h = some r) : zMz l G K y_Orders_alike prog_4_method_11_code 4 0 [.ref (G.1 a0), .ref (G.1 a1), .int x2] h r h := zMet (by decide +kernel) (Nat.le_of_ble_eq_true rfl) (fun p e s m below meth c ls X hI hl => r_Orders_alike_0 X a0 a1 x2 h hm hI hl)
-- walk of AllHome$Orders.findSpare
theorem d_Orders_findSpare_0 : decode prog_4_method_8_code 0 = .ok (.aload_n 0, 1) := by decide +kernel
theorem d_Orders_findSpare_1 : decode prog_4_method_8_code 1 = .ok (.getfield 39, 3) := by decide +kernel
theorem d_Orders_findSpare_4 : decode prog_4_method_8_code 4 = .ok (.invokestatic 100, 3) := by decide +kernel
theorem d_Orders_findSpare_7 : decode prog_4_method_8_code 7 = .ok (.istore_n 1, 1) := by decide +kernel
theorem d_Orders_findSpare_8 : decode prog_4_method_8_code 8 = .ok (.iconst 0, 1) := by decide +kernel
theorem d_Orders_findSpare_9 : decode prog_4_method_8_code 9 = .ok (.istore_n 2, 1) := by decide +kernel
theorem d_Orders_findSpare_10 : decode prog_4_method_8_code 10 = .ok (.iload_n 2, 1) := by decide +kernel
theorem d_Orders_findSpare_11 : decode prog_4_method_8_code 11 = .ok (.aload_n 0, 1) := by decide +kernel
theorem d_Orders_findSpare_12 : decode prog_4_method_8_code 12 = .ok (.getfield 63, 3) := by decide +kernel
theorem d_Orders_findSpare_15 : decode prog_4_method_8_code 15 = .ok (.if_icmp .ge 39, 3) := by decide +kernel
theorem d_Orders_findSpare_18 : decode prog_4_method_8_code 18 = .ok (.aload_n 0, 1) := by decide +kernel
theorem d_Orders_findSpare_19 : decode prog_4_method_8_code 19 = .ok (.getfield 16, 3) := by decide +kernel
theorem d_Orders_findSpare_22 : decode prog_4_method_8_code 22 = .ok (.iload_n 2, 1) := by decide +kernel
theorem d_Orders_findSpare_23 : decode prog_4_method_8_code 23 = .ok (.iaload, 1) := by decide +kernel
theorem d_Orders_findSpare_24 : decode prog_4_method_8_code 24 = .ok (.iload_n 1, 1) := by decide +kernel
theorem d_Orders_findSpare_25 : decode prog_4_method_8_code 25 = .ok (.if_icmp .ne 23, 3) := by decide +kernel
theorem d_Orders_findSpare_28 : decode prog_4_method_8_code 28 = .ok (.aload_n 0, 1) := by decide +kernel
theorem d_Orders_findSpare_29 : decode prog_4_method_8_code 29 = .ok (.getfield 13, 3) := by decide +kernel
theorem d_Orders_findSpare_32 : decode prog_4_method_8_code 32 = .ok (.iload_n 2, 1) := by decide +kernel
theorem d_Orders_findSpare_33 : decode prog_4_method_8_code 33 = .ok (.aaload, 1) := by decide +kernel
theorem d_Orders_findSpare_34 : decode prog_4_method_8_code 34 = .ok (.aload_n 0, 1) := by decide +kernel
theorem d_Orders_findSpare_35 : decode prog_4_method_8_code 35 = .ok (.getfield 39, 3) := by decide +kernel
theorem d_Orders_findSpare_38 : decode prog_4_method_8_code 38 = .ok (.bipush 121, 2) := by decide +kernel
theorem d_Orders_findSpare_40 : decode prog_4_method_8_code 40 = .ok (.invokestatic 104, 3) := by decide +kernel
theorem d_Orders_findSpare_43 : decode prog_4_method_8_code 43 = .ok (.ifCond .eq 5, 3) := by decide +kernel
theorem d_Orders_findSpare_46 : decode prog_4_method_8_code 46 = .ok (.iload_n 2, 1) := by decide +kernel
theorem d_Orders_findSpare_47 : decode prog_4_method_8_code 47 = .ok (.ireturn, 1) := by decide +kernel
theorem d_Orders_findSpare_48 : decode prog_4_method_8_code 48 = .ok (.iinc 2 1, 3) := by decide +kernel
theorem d_Orders_findSpare_51 : decode prog_4_method_8_code 51 = .ok (.goto (-41), 3) := by decide +kernel
theorem d_Orders_findSpare_54 : decode prog_4_method_8_code 54 = .ok (.iconst (-1), 1) := by decide +kernel
theorem d_Orders_findSpare_55 : decode prog_4_method_8_code 55 = .ok (.ireturn, 1) := by decide +kernel
set_option maxHeartbeats 4000000 in
set_option maxRecDepth 100000 in
theorem r_Orders_findSpare_10_b {p : Program} {l : Launch} {e : Env} {s : State} {m : MethodId} {args : Array Value} {below : List Frame} {meth : Method} {c : Code} {G : zG} {K : Nat} (X : zX p s m args meth c "AllHome$Orders" prog_4_method_8_code 3 (some .int) G (zA G K)) {r : Int32} (a0 : Nat) (x1 : Int32) (h : zH) (k10 : (Int32) → Option Int32) (hk10 : ∀ (w : Int32), k10 w = some r → ∀ (H : Heap) (locs : List Loc) (ls : Array Slot), zI G K s (zA G K) H locs h → lv_has ls 3 [(0, .ref (G.1 a0)), (1, .int x1), (2, .int w)] → W p l e (zR 1) s m args below meth c H locs 0 0 (MQ below (zQi G K r h) args s 0 0 (zA G K)) (F0 m 10 ls [])) (u : Int32) (hm : g_Orders_findSpare_10 a0 x1 h k10 u = some r) {H : Heap} {locs : List Loc} {ls : Array Slot} (hI : zI G K s (zA G K) H locs h) (hl : lv_has ls 3 [(0, .ref (G.1 a0)), (1, .int x1), (2, .int u)]) : W p l e (zR 1) s m args below meth c H locs 0 0 (MQ below (zQi G K r h) args s 0 0 (zA G K)) (F0 m 10 ls []) := by
  obtain ⟨hx, hb, hml, hown, hts, hr, hlocks, hK, hST, hNs⟩ := id X
  unfold g_Orders_findSpare_10 at hm
  refine lv_iload_n hx hb d_Orders_findSpare_10 rfl (lv_at hl 2 rfl) ?_
  refine lv_aload_n hx hb d_Orders_findSpare_11 rfl (lv_at hl 0 rfl) ?_
  obtain ⟨v12, hv, hm⟩ := zbd hm
  refine z_getI X hI F_Orders_63 hv d_Orders_findSpare_12 ?_
  refine lv_icmp_ge (tgt := 54) hx hb d_Orders_findSpare_15 (by decide) (fun hc15 => ?_) (fun hc15 => ?_)
  · replace hm := zif_t hc15 hm
    refine lv_iconst (v := (-1 : Int32)) hx hb d_Orders_findSpare_54 (by decide) ?_
    obtain rfl := zs1 hm
    exact z_iret X hI d_Orders_findSpare_55
  · replace hm := zif_f hc15 hm
    refine lv_aload_n hx hb d_Orders_findSpare_18 rfl (lv_at hl 0 rfl) ?_
    obtain ⟨v19, hv, hm⟩ := zbd hm
    refine z_getR X hI F_Orders_16 hv d_Orders_findSpare_19 ?_
    refine lv_iload_n hx hb d_Orders_findSpare_22 rfl (lv_at hl 2 rfl) ?_
    obtain ⟨v23, hv, hm⟩ := zbd hm
    refine z_iald X hI hv d_Orders_findSpare_23 ?_
    refine lv_iload_n hx hb d_Orders_findSpare_24 rfl (lv_at hl 1 rfl) ?_
    refine lv_icmp_ne (tgt := 48) hx hb d_Orders_findSpare_25 (by decide) (fun hc25 => ?_) (fun hc25 => ?_)
    · replace hm := zif_f hc25 hm
      refine lv_iinc (v := (u + (nI 1))) (lv' := [(2, .int (u + (nI 1))), (0, .ref (G.1 a0)), (1, .int x1)]) hx hb d_Orders_findSpare_48 hl (k := 2) rfl (congrArg (fun z => u + z) (show Int32.ofInt (1) = (nI 1) by decide)) (by decide) rfl (fun ls hl => ?_)
      refine lv_goto (tgt := 10) hx hb d_Orders_findSpare_51 (by decide) ?_
      obtain ⟨g0, e0⟩ : ∃ z, z = (u + (nI 1)) := ⟨_, rfl⟩
      rw [← e0] at hm hl
      exact hk10 g0 hm _ _ _ hI (lv_sub hl [1, 2, 0] rfl)
    · replace hm := zif_t hc25 hm
      refine lv_aload_n hx hb d_Orders_findSpare_28 rfl (lv_at hl 0 rfl) ?_
      obtain ⟨v29, hv, hm⟩ := zbd hm
      refine z_getR X hI F_Orders_13 hv d_Orders_findSpare_29 ?_
      refine lv_iload_n hx hb d_Orders_findSpare_32 rfl (lv_at hl 2 rfl) ?_
      obtain ⟨v33, hv, hm⟩ := zbd hm
      refine z_aald X hI 5 (.array .int) rfl rfl hv d_Orders_findSpare_33 ?_
      refine lv_aload_n hx hb d_Orders_findSpare_34 rfl (lv_at hl 0 rfl) ?_
      obtain ⟨v35, hv, hm⟩ := zbd hm
      refine z_getR X hI F_Orders_39 hv d_Orders_findSpare_35 ?_
      refine lv_bipush (v := (nI 121)) hx hb d_Orders_findSpare_38 (by decide) ?_
      obtain ⟨v40, hv, hm⟩ := zbd hm
      refine z_ci hI (z_runS (As := [.ref (G.1 v33), .ref (G.1 v35), .int (nI 121)]) (rest := []) X hI hl.1 (c_Orders_alike l G K v33 v35 (nI 121) h _ hv) C_Orders_104 rfl (Nat.le_of_ble_eq_true rfl) ⟨Nat.le_of_ble_eq_true rfl, Nat.le_of_ble_eq_true rfl, Nat.zero_le _, Nat.zero_le _⟩ rfl d_Orders_findSpare_40) (fun H locs hI => ?_)
      refine lv_if_eq (tgt := 48) hx hb d_Orders_findSpare_43 (by decide) (fun hc43 => ?_) (fun hc43 => ?_)
      · replace hm := zif_t hc43 hm
        refine lv_iinc (v := (u + (nI 1))) (lv' := [(2, .int (u + (nI 1))), (0, .ref (G.1 a0)), (1, .int x1)]) hx hb d_Orders_findSpare_48 hl (k := 2) rfl (congrArg (fun z => u + z) (show Int32.ofInt (1) = (nI 1) by decide)) (by decide) rfl (fun ls hl => ?_)
        refine lv_goto (tgt := 10) hx hb d_Orders_findSpare_51 (by decide) ?_
        obtain ⟨g0, e0⟩ : ∃ z, z = (u + (nI 1)) := ⟨_, rfl⟩
        rw [← e0] at hm hl
        exact hk10 g0 hm _ _ _ hI (lv_sub hl [1, 2, 0] rfl)
      · replace hm := zif_f hc43 hm
        refine lv_iload_n hx hb d_Orders_findSpare_46 rfl (lv_at hl 2 rfl) ?_
        obtain rfl := zs1 hm
        exact z_iret X hI d_Orders_findSpare_47
theorem r_Orders_findSpare_10 {p : Program} {l : Launch} {e : Env} {s : State} {m : MethodId} {args : Array Value} {below : List Frame} {meth : Method} {c : Code} {G : zG} {K : Nat} (X : zX p s m args meth c "AllHome$Orders" prog_4_method_8_code 3 (some .int) G (zA G K)) {r : Int32} (a0 : Nat) (x1 : Int32) (h : zH) : ∀ (n : Nat) (w : Int32), zloop (g_Orders_findSpare_10 a0 x1 h) n w = some r → ∀ (H : Heap) (locs : List Loc) (ls : Array Slot), zI G K s (zA G K) H locs h → lv_has ls 3 [(0, .ref (G.1 a0)), (1, .int x1), (2, .int w)] → W p l e (zR 1) s m args below meth c H locs 0 0 (MQ below (zQi G K r h) args s 0 0 (zA G K)) (F0 m 10 ls []) := by
  intro n
  induction n with
  | zero => intro w hm; cases hm
  | succ n ih => intro w hm H locs ls hI hl; exact r_Orders_findSpare_10_b X a0 x1 h (zloop (g_Orders_findSpare_10 a0 x1 h) n) ih w (zls hm) hI hl
set_option maxHeartbeats 4000000 in
set_option maxRecDepth 100000 in
theorem r_Orders_findSpare_0 {p : Program} {l : Launch} {e : Env} {s : State} {m : MethodId} {args : Array Value} {below : List Frame} {meth : Method} {c : Code} {G : zG} {K : Nat} (X : zX p s m args meth c "AllHome$Orders" prog_4_method_8_code 3 (some .int) G (zA G K)) {r : Int32} (a0 : Nat) (h : zH) (hm : m_Orders_findSpare a0 h = some r) {H : Heap} {locs : List Loc} {ls : Array Slot} (hI : zI G K s (zA G K) H locs h) (hl : lv_has ls 3 [(0, .ref (G.1 a0))]) : W p l e (zR 1) s m args below meth c H locs 0 0 (MQ below (zQi G K r h) args s 0 0 (zA G K)) (F0 m 0 ls []) := by
  obtain ⟨hx, hb, hml, hown, hts, hr, hlocks, hK, hST, hNs⟩ := id X
  unfold m_Orders_findSpare at hm
  refine lv_aload_n hx hb d_Orders_findSpare_0 rfl (lv_at hl 0 rfl) ?_
  obtain ⟨v1, hv, hm⟩ := zbd hm
  refine z_getR X hI F_Orders_39 hv d_Orders_findSpare_1 ?_
  obtain ⟨v4, hv, hm⟩ := zbd hm
  refine z_ci hI (z_runS (As := [.ref (G.1 v1)]) (rest := []) X hI hl.1 (c_Orders_printOf l G K v1 h _ hv) C_Orders_100 rfl (Nat.le_of_ble_eq_true rfl) ⟨Nat.le_of_ble_eq_true rfl, Nat.le_of_ble_eq_true rfl, Nat.zero_le _, Nat.zero_le _⟩ rfl d_Orders_findSpare_4) (fun H locs hI => ?_)
  refine lv_istore_n (lv' := [(1, .int v4), (0, .ref (G.1 a0))]) hx hb d_Orders_findSpare_7 rfl hl (by decide) rfl (fun ls hl => ?_)
  refine lv_iconst (v := (nI 0)) hx hb d_Orders_findSpare_8 (by decide) ?_
  refine lv_istore_n (lv' := [(2, .int (nI 0)), (1, .int v4), (0, .ref (G.1 a0))]) hx hb d_Orders_findSpare_9 rfl hl (by decide) rfl (fun ls hl => ?_)
  exact r_Orders_findSpare_10 X a0 v4 h zN (nI 0) hm _ _ _ hI (lv_sub hl [2, 1, 0] rfl)
set_option maxHeartbeats 4000000 in
set_option maxRecDepth 100000 in
theorem c_Orders_findSpare (l : Launch) (G : zG) (K : Nat) (a0 : Nat) (h : zH) (r : Int32) (hm : m_Orders_findSpare a0 h = some r) : zMi l G K y_Orders_findSpare prog_4_method_8_code 3 1 [.ref (G.1 a0)] h r h := zMet (by decide +kernel) (Nat.le_of_ble_eq_true rfl) (fun p e s m below meth c ls X hI hl => r_Orders_findSpare_0 X a0 h hm hI hl)
