-- walk of AllHome$Orders.tryStep
theorem d_Orders_tryStep_0 : decode prog_4_method_7_code 0 = .ok (.aload_n 0, 1) := by decide +kernel
theorem d_Orders_tryStep_1 : decode prog_4_method_7_code 1 = .ok (.getfield 13, 3) := by decide +kernel
theorem d_Orders_tryStep_4 : decode prog_4_method_7_code 4 = .ok (.iload_n 1, 1) := by decide +kernel
theorem d_Orders_tryStep_5 : decode prog_4_method_7_code 5 = .ok (.aaload, 1) := by decide +kernel
theorem d_Orders_tryStep_6 : decode prog_4_method_7_code 6 = .ok (.iconst 0, 1) := by decide +kernel
theorem d_Orders_tryStep_7 : decode prog_4_method_7_code 7 = .ok (.aload_n 0, 1) := by decide +kernel
theorem d_Orders_tryStep_8 : decode prog_4_method_7_code 8 = .ok (.getfield 39, 3) := by decide +kernel
theorem d_Orders_tryStep_11 : decode prog_4_method_7_code 11 = .ok (.iconst 0, 1) := by decide +kernel
theorem d_Orders_tryStep_12 : decode prog_4_method_7_code 12 = .ok (.bipush 123, 2) := by decide +kernel
theorem d_Orders_tryStep_14 : decode prog_4_method_7_code 14 = .ok (.invokestatic 87, 3) := by decide +kernel
theorem d_Orders_tryStep_17 : decode prog_4_method_7_code 17 = .ok (.aload_n 0, 1) := by decide +kernel
theorem d_Orders_tryStep_18 : decode prog_4_method_7_code 18 = .ok (.getfield 55, 3) := by decide +kernel
theorem d_Orders_tryStep_21 : decode prog_4_method_7_code 21 = .ok (.aload_n 0, 1) := by decide +kernel
theorem d_Orders_tryStep_22 : decode prog_4_method_7_code 22 = .ok (.getfield 39, 3) := by decide +kernel
theorem d_Orders_tryStep_25 : decode prog_4_method_7_code 25 = .ok (.iload_n 2, 1) := by decide +kernel
theorem d_Orders_tryStep_26 : decode prog_4_method_7_code 26 = .ok (.iload_n 3, 1) := by decide +kernel
theorem d_Orders_tryStep_27 : decode prog_4_method_7_code 27 = .ok (.invokevirtual 93, 3) := by decide +kernel
theorem d_Orders_tryStep_30 : decode prog_4_method_7_code 30 = .ok (.iconst 1, 1) := by decide +kernel
theorem d_Orders_tryStep_31 : decode prog_4_method_7_code 31 = .ok (.if_icmp .eq 4, 3) := by decide +kernel
theorem d_Orders_tryStep_34 : decode prog_4_method_7_code 34 = .ok (.return_, 1) := by decide +kernel
theorem d_Orders_tryStep_35 : decode prog_4_method_7_code 35 = .ok (.aload_n 0, 1) := by decide +kernel
theorem d_Orders_tryStep_36 : decode prog_4_method_7_code 36 = .ok (.invokevirtual 97, 3) := by decide +kernel
theorem d_Orders_tryStep_39 : decode prog_4_method_7_code 39 = .ok (.istore 4, 2) := by decide +kernel
theorem d_Orders_tryStep_41 : decode prog_4_method_7_code 41 = .ok (.iload 4, 2) := by decide +kernel
theorem d_Orders_tryStep_43 : decode prog_4_method_7_code 43 = .ok (.iconst (-1), 1) := by decide +kernel
theorem d_Orders_tryStep_44 : decode prog_4_method_7_code 44 = .ok (.if_icmp .ne 16, 3) := by decide +kernel
theorem d_Orders_tryStep_47 : decode prog_4_method_7_code 47 = .ok (.aload_n 0, 1) := by decide +kernel
theorem d_Orders_tryStep_48 : decode prog_4_method_7_code 48 = .ok (.iload_n 1, 1) := by decide +kernel
theorem d_Orders_tryStep_49 : decode prog_4_method_7_code 49 = .ok (.bipush 100, 2) := by decide +kernel
theorem d_Orders_tryStep_51 : decode prog_4_method_7_code 51 = .ok (.iload_n 2, 1) := by decide +kernel
theorem d_Orders_tryStep_52 : decode prog_4_method_7_code 52 = .ok (.imul, 1) := by decide +kernel
theorem d_Orders_tryStep_53 : decode prog_4_method_7_code 53 = .ok (.iload_n 3, 1) := by decide +kernel
theorem d_Orders_tryStep_54 : decode prog_4_method_7_code 54 = .ok (.iadd, 1) := by decide +kernel
theorem d_Orders_tryStep_55 : decode prog_4_method_7_code 55 = .ok (.invokevirtual 75, 3) := by decide +kernel
theorem d_Orders_tryStep_58 : decode prog_4_method_7_code 58 = .ok (.istore 4, 2) := by decide +kernel
theorem d_Orders_tryStep_60 : decode prog_4_method_7_code 60 = .ok (.iload 4, 2) := by decide +kernel
theorem d_Orders_tryStep_62 : decode prog_4_method_7_code 62 = .ok (.iconst (-1), 1) := by decide +kernel
theorem d_Orders_tryStep_63 : decode prog_4_method_7_code 63 = .ok (.if_icmp .eq 39, 3) := by decide +kernel
theorem d_Orders_tryStep_66 : decode prog_4_method_7_code 66 = .ok (.aload_n 0, 1) := by decide +kernel
theorem d_Orders_tryStep_67 : decode prog_4_method_7_code 67 = .ok (.getfield 32, 3) := by decide +kernel
theorem d_Orders_tryStep_70 : decode prog_4_method_7_code 70 = .ok (.iload_n 1, 1) := by decide +kernel
theorem d_Orders_tryStep_71 : decode prog_4_method_7_code 71 = .ok (.iaload, 1) := by decide +kernel
theorem d_Orders_tryStep_72 : decode prog_4_method_7_code 72 = .ok (.bipush 21, 2) := by decide +kernel
theorem d_Orders_tryStep_74 : decode prog_4_method_7_code 74 = .ok (.if_icmp .ge 28, 3) := by decide +kernel
theorem d_Orders_tryStep_77 : decode prog_4_method_7_code 77 = .ok (.aload_n 0, 1) := by decide +kernel
theorem d_Orders_tryStep_78 : decode prog_4_method_7_code 78 = .ok (.getfield 29, 3) := by decide +kernel
theorem d_Orders_tryStep_81 : decode prog_4_method_7_code 81 = .ok (.iload_n 1, 1) := by decide +kernel
theorem d_Orders_tryStep_82 : decode prog_4_method_7_code 82 = .ok (.aaload, 1) := by decide +kernel
theorem d_Orders_tryStep_83 : decode prog_4_method_7_code 83 = .ok (.aload_n 0, 1) := by decide +kernel
theorem d_Orders_tryStep_84 : decode prog_4_method_7_code 84 = .ok (.getfield 32, 3) := by decide +kernel
theorem d_Orders_tryStep_87 : decode prog_4_method_7_code 87 = .ok (.iload_n 1, 1) := by decide +kernel
theorem d_Orders_tryStep_88 : decode prog_4_method_7_code 88 = .ok (.iaload, 1) := by decide +kernel
theorem d_Orders_tryStep_89 : decode prog_4_method_7_code 89 = .ok (.iload 4, 2) := by decide +kernel
theorem d_Orders_tryStep_91 : decode prog_4_method_7_code 91 = .ok (.iastore, 1) := by decide +kernel
theorem d_Orders_tryStep_92 : decode prog_4_method_7_code 92 = .ok (.aload_n 0, 1) := by decide +kernel
theorem d_Orders_tryStep_93 : decode prog_4_method_7_code 93 = .ok (.getfield 32, 3) := by decide +kernel
theorem d_Orders_tryStep_96 : decode prog_4_method_7_code 96 = .ok (.iload_n 1, 1) := by decide +kernel
theorem d_Orders_tryStep_97 : decode prog_4_method_7_code 97 = .ok (.dup2, 1) := by decide +kernel
theorem d_Orders_tryStep_98 : decode prog_4_method_7_code 98 = .ok (.iaload, 1) := by decide +kernel
theorem d_Orders_tryStep_99 : decode prog_4_method_7_code 99 = .ok (.iconst 1, 1) := by decide +kernel
theorem d_Orders_tryStep_100 : decode prog_4_method_7_code 100 = .ok (.iadd, 1) := by decide +kernel
theorem d_Orders_tryStep_101 : decode prog_4_method_7_code 101 = .ok (.iastore, 1) := by decide +kernel
theorem d_Orders_tryStep_102 : decode prog_4_method_7_code 102 = .ok (.return_, 1) := by decide +kernel
set_option maxHeartbeats 4000000 in
set_option maxRecDepth 100000 in
theorem r_Orders_tryStep_60 {p : Program} {l : Launch} {e : Env} {s : State} {m : MethodId} {args : Array Value} {below : List Frame} {meth : Method} {c : Code} {G : zG} {K : Nat} (X : zX p s m args meth c "AllHome$Orders" prog_4_method_7_code 5 none G (zA G K)) {h' : zH} (a0 : Nat) (x1 : Int32) (x4 : Int32) (h : zH) (hm : g_Orders_tryStep_60 a0 x1 x4 h = some h') {H : Heap} {locs : List Loc} {ls : Array Slot} (hI : zI G K s (zA G K) H locs h) (hl : lv_has ls 5 [(0, .ref (G.1 a0)), (1, .int x1), (4, .int x4)]) : W p l e (zR 4) s m args below meth c H locs 0 0 (MQ below (zQv G K h') args s 0 0 (zA G K)) (F0 m 60 ls []) := by
  obtain ⟨hx, hb, hml, hown, hts, hr, hlocks, hK, hST, hNs⟩ := id X
  unfold g_Orders_tryStep_60 at hm
  refine lv_iload hx hb d_Orders_tryStep_60 (lv_at hl 2 rfl) ?_
  refine lv_iconst (v := (-1 : Int32)) hx hb d_Orders_tryStep_62 (by decide) ?_
  refine lv_icmp_eq (tgt := 102) hx hb d_Orders_tryStep_63 (by decide) (fun hc63 => ?_) (fun hc63 => ?_)
  · replace hm := zif_t hc63 hm
    obtain rfl := zs1 hm
    exact z_vret X hI d_Orders_tryStep_102
  · replace hm := zif_f hc63 hm
    refine lv_aload_n hx hb d_Orders_tryStep_66 rfl (lv_at hl 0 rfl) ?_
    obtain ⟨v67, hv, hm⟩ := zbd hm
    refine z_getR X hI F_Orders_32 hv d_Orders_tryStep_67 ?_
    refine lv_iload_n hx hb d_Orders_tryStep_70 rfl (lv_at hl 1 rfl) ?_
    obtain ⟨v71, hv, hm⟩ := zbd hm
    refine z_iald X hI hv d_Orders_tryStep_71 ?_
    refine lv_bipush (v := (nI 21)) hx hb d_Orders_tryStep_72 (by decide) ?_
    refine lv_icmp_ge (tgt := 102) hx hb d_Orders_tryStep_74 (by decide) (fun hc74 => ?_) (fun hc74 => ?_)
    · replace hm := zif_t hc74 hm
      obtain rfl := zs1 hm
      exact z_vret X hI d_Orders_tryStep_102
    · replace hm := zif_f hc74 hm
      refine lv_aload_n hx hb d_Orders_tryStep_77 rfl (lv_at hl 0 rfl) ?_
      obtain ⟨v78, hv, hm⟩ := zbd hm
      refine z_getR X hI F_Orders_29 hv d_Orders_tryStep_78 ?_
      refine lv_iload_n hx hb d_Orders_tryStep_81 rfl (lv_at hl 1 rfl) ?_
      obtain ⟨v82, hv, hm⟩ := zbd hm
      refine z_aald X hI 5 (.array .int) rfl rfl hv d_Orders_tryStep_82 ?_
      refine lv_aload_n hx hb d_Orders_tryStep_83 rfl (lv_at hl 0 rfl) ?_
      obtain ⟨v84, hv, hm⟩ := zbd hm
      refine z_getR X hI F_Orders_32 hv d_Orders_tryStep_84 ?_
      refine lv_iload_n hx hb d_Orders_tryStep_87 rfl (lv_at hl 1 rfl) ?_
      obtain ⟨v88, hv, hm⟩ := zbd hm
      refine z_iald X hI hv d_Orders_tryStep_88 ?_
      refine lv_iload hx hb d_Orders_tryStep_89 (lv_at hl 2 rfl) ?_
      obtain ⟨h91, hv, hm⟩ := zbd hm
      refine z_iast X hI hv d_Orders_tryStep_91 (fun H locs hI => ?_)
      refine lv_aload_n hx hb d_Orders_tryStep_92 rfl (lv_at hl 0 rfl) ?_
      obtain ⟨v93, hv, hm⟩ := zbd hm
      refine z_getR X hI F_Orders_32 hv d_Orders_tryStep_93 ?_
      refine lv_iload_n hx hb d_Orders_tryStep_96 rfl (lv_at hl 1 rfl) ?_
      refine lv_dup2_11 hx hb d_Orders_tryStep_97 rfl rfl ?_
      obtain ⟨v98, hv, hm⟩ := zbd hm
      refine z_iald X hI hv d_Orders_tryStep_98 ?_
      refine lv_iconst (v := (nI 1)) hx hb d_Orders_tryStep_99 (by decide) ?_
      refine lv_iadd hx hb d_Orders_tryStep_100 ?_
      obtain ⟨h101, hv, hm⟩ := zbd hm
      refine z_iast X hI hv d_Orders_tryStep_101 (fun H locs hI => ?_)
      obtain rfl := zs1 hm
      exact z_vret X hI d_Orders_tryStep_102
set_option maxHeartbeats 4000000 in
set_option maxRecDepth 100000 in
theorem r_Orders_tryStep_0 {p : Program} {l : Launch} {e : Env} {s : State} {m : MethodId} {args : Array Value} {below : List Frame} {meth : Method} {c : Code} {G : zG} {K : Nat} (X : zX p s m args meth c "AllHome$Orders" prog_4_method_7_code 5 none G (zA G K)) {h' : zH} (a0 : Nat) (x1 : Int32) (x2 : Int32) (x3 : Int32) (h : zH) (hm : m_Orders_tryStep a0 x1 x2 x3 h = some h') {H : Heap} {locs : List Loc} {ls : Array Slot} (hI : zI G K s (zA G K) H locs h) (hl : lv_has ls 5 [(0, .ref (G.1 a0)), (1, .int x1), (2, .int x2), (3, .int x3)]) : W p l e (zR 4) s m args below meth c H locs 0 0 (MQ below (zQv G K h') args s 0 0 (zA G K)) (F0 m 0 ls []) := by
  obtain ⟨hx, hb, hml, hown, hts, hr, hlocks, hK, hST, hNs⟩ := id X
  unfold m_Orders_tryStep at hm
  refine lv_aload_n hx hb d_Orders_tryStep_0 rfl (lv_at hl 0 rfl) ?_
  obtain ⟨v1, hv, hm⟩ := zbd hm
  refine z_getR X hI F_Orders_13 hv d_Orders_tryStep_1 ?_
  refine lv_iload_n hx hb d_Orders_tryStep_4 rfl (lv_at hl 1 rfl) ?_
  obtain ⟨v5, hv, hm⟩ := zbd hm
  refine z_aald X hI 5 (.array .int) rfl rfl hv d_Orders_tryStep_5 ?_
  refine lv_iconst (v := (nI 0)) hx hb d_Orders_tryStep_6 (by decide) ?_
  refine lv_aload_n hx hb d_Orders_tryStep_7 rfl (lv_at hl 0 rfl) ?_
  obtain ⟨v8, hv, hm⟩ := zbd hm
  refine z_getR X hI F_Orders_39 hv d_Orders_tryStep_8 ?_
  refine lv_iconst (v := (nI 0)) hx hb d_Orders_tryStep_11 (by decide) ?_
  refine lv_bipush (v := (nI 123)) hx hb d_Orders_tryStep_12 (by decide) ?_
  obtain ⟨h14, hv, hm⟩ := zbd hm
  refine z_cpI X hI hl.1 kw475 kw313 kw312 kw11 hv ⟨Nat.le_of_ble_eq_true rfl, Nat.le_of_ble_eq_true rfl⟩ d_Orders_tryStep_14 (fun H locs hI => ?_)
  refine lv_aload_n hx hb d_Orders_tryStep_17 rfl (lv_at hl 0 rfl) ?_
  obtain ⟨v18, hv, hm⟩ := zbd hm
  refine z_getR X hI F_Orders_55 hv d_Orders_tryStep_18 ?_
  refine lv_aload_n hx hb d_Orders_tryStep_21 rfl (lv_at hl 0 rfl) ?_
  obtain ⟨v22, hv, hm⟩ := zbd hm
  refine z_getR X hI F_Orders_39 hv d_Orders_tryStep_22 ?_
  refine lv_iload_n hx hb d_Orders_tryStep_25 rfl (lv_at hl 2 rfl) ?_
  refine lv_iload_n hx hb d_Orders_tryStep_26 rfl (lv_at hl 3 rfl) ?_
  obtain ⟨v27, h27, hv, hm⟩ := zb2_at hm
  obtain ⟨hq, hv⟩ := zcv_at hv
  refine z_ci hI (z_runV (As := [.ref (G.1 v22), .int x2, .int x3]) (rest := []) X hI hl.1 (c_Rules_apply l G K v18 v22 x2 x3 h14 _ _ hv) C_Orders_93 rfl hq (Nat.le_of_ble_eq_true rfl) ⟨Nat.le_of_ble_eq_true rfl, Nat.le_of_ble_eq_true rfl, Nat.zero_le _, Nat.zero_le _⟩ rfl d_Orders_tryStep_27) (fun H locs hI => ?_)
  refine lv_iconst (v := (nI 1)) hx hb d_Orders_tryStep_30 (by decide) ?_
  refine lv_icmp_eq (tgt := 35) hx hb d_Orders_tryStep_31 (by decide) (fun hc31 => ?_) (fun hc31 => ?_)
  · replace hm := zif_t hc31 hm
    refine lv_aload_n hx hb d_Orders_tryStep_35 rfl (lv_at hl 0 rfl) ?_
    obtain ⟨v36, hv, hm⟩ := zbd hm
    obtain ⟨hq, hv⟩ := zcv_at hv
    refine z_ci hI (z_runV (As := []) (rest := []) X hI hl.1 (c_Orders_findSpare l G K a0 h27 _ hv) C_Orders_97 rfl hq (Nat.le_of_ble_eq_true rfl) ⟨Nat.le_of_ble_eq_true rfl, Nat.le_of_ble_eq_true rfl, Nat.zero_le _, Nat.zero_le _⟩ rfl d_Orders_tryStep_36) (fun H locs hI => ?_)
    refine lv_istore (lv' := [(4, .int v36), (0, .ref (G.1 a0)), (1, .int x1), (2, .int x2), (3, .int x3)]) hx hb d_Orders_tryStep_39 hl (by decide) rfl (fun ls hl => ?_)
    refine lv_iload hx hb d_Orders_tryStep_41 (lv_at hl 0 rfl) ?_
    refine lv_iconst (v := (-1 : Int32)) hx hb d_Orders_tryStep_43 (by decide) ?_
    refine lv_icmp_ne (tgt := 60) hx hb d_Orders_tryStep_44 (by decide) (fun hc44 => ?_) (fun hc44 => ?_)
    · replace hm := zif_f hc44 hm
      exact r_Orders_tryStep_60 X a0 x1 v36 h27 hm hI (lv_sub hl [1, 2, 0] rfl)
    · replace hm := zif_t hc44 hm
      refine lv_aload_n hx hb d_Orders_tryStep_47 rfl (lv_at hl 1 rfl) ?_
      refine lv_iload_n hx hb d_Orders_tryStep_48 rfl (lv_at hl 2 rfl) ?_
      refine lv_bipush (v := (nI 100)) hx hb d_Orders_tryStep_49 (by decide) ?_
      refine lv_iload_n hx hb d_Orders_tryStep_51 rfl (lv_at hl 3 rfl) ?_
      refine lv_imul hx hb d_Orders_tryStep_52 ?_
      refine lv_iload_n hx hb d_Orders_tryStep_53 rfl (lv_at hl 4 rfl) ?_
      refine lv_iadd hx hb d_Orders_tryStep_54 ?_
      obtain ⟨v55, h55, hv, hm⟩ := zb2_at hm
      obtain ⟨hq, hv⟩ := zcv_at hv
      refine z_ci hI (z_runV (As := [.int x1, .int (((nI 100) * x2) + x3)]) (rest := []) X hI hl.1 (c_Orders_addSpare l G K a0 x1 (((nI 100) * x2) + x3) h27 _ _ hv) C_Orders_75 rfl hq (Nat.le_of_ble_eq_true rfl) ⟨Nat.le_of_ble_eq_true rfl, Nat.le_of_ble_eq_true rfl, Nat.zero_le _, Nat.zero_le _⟩ rfl d_Orders_tryStep_55) (fun H locs hI => ?_)
      refine lv_istore (lv' := [(4, .int v55), (0, .ref (G.1 a0)), (1, .int x1), (2, .int x2), (3, .int x3)]) hx hb d_Orders_tryStep_58 hl (by decide) rfl (fun ls hl => ?_)
      exact r_Orders_tryStep_60 X a0 x1 v55 h55 hm hI (lv_sub hl [1, 2, 0] rfl)
  · replace hm := zif_f hc31 hm
    obtain rfl := zs1 hm
    exact z_vret X hI d_Orders_tryStep_34
set_option maxHeartbeats 4000000 in
set_option maxRecDepth 100000 in
theorem c_Orders_tryStep (l : Launch) (G : zG) (K : Nat) (a0 : Nat) (x1 : Int32) (x2 : Int32) (x3 : Int32) (h : zH) (h' : zH) (hm : m_Orders_tryStep a0 x1 x2 x3 h = some h') : zMv l G K y_Orders_tryStep prog_4_method_7_code 5 4 [.ref (G.1 a0), .int x1, .int x2, .int x3] h h' := zMet (by decide +kernel) (Nat.le_of_ble_eq_true rfl) (fun p e s m below meth c ls X hI hl => r_Orders_tryStep_0 X a0 x1 x2 x3 h hm hI hl)
-- walk of AllHome$Orders.explore
theorem d_Orders_explore_0 : decode prog_4_method_5_code 0 = .ok (.iload_n 1, 1) := by decide +kernel
theorem d_Orders_explore_1 : decode prog_4_method_5_code 1 = .ok (.aload_n 0, 1) := by decide +kernel
theorem d_Orders_explore_2 : decode prog_4_method_5_code 2 = .ok (.getfield 42, 3) := by decide +kernel
theorem d_Orders_explore_5 : decode prog_4_method_5_code 5 = .ok (.if_icmp .ne 4, 3) := by decide +kernel
theorem d_Orders_explore_8 : decode prog_4_method_5_code 8 = .ok (.return_, 1) := by decide +kernel
theorem d_Orders_explore_9 : decode prog_4_method_5_code 9 = .ok (.aload_n 0, 1) := by decide +kernel
theorem d_Orders_explore_10 : decode prog_4_method_5_code 10 = .ok (.iload_n 1, 1) := by decide +kernel
theorem d_Orders_explore_11 : decode prog_4_method_5_code 11 = .ok (.putfield 42, 3) := by decide +kernel
theorem d_Orders_explore_14 : decode prog_4_method_5_code 14 = .ok (.aload_n 0, 1) := by decide +kernel
theorem d_Orders_explore_15 : decode prog_4_method_5_code 15 = .ok (.iconst 0, 1) := by decide +kernel
theorem d_Orders_explore_16 : decode prog_4_method_5_code 16 = .ok (.putfield 63, 3) := by decide +kernel
theorem d_Orders_explore_19 : decode prog_4_method_5_code 19 = .ok (.aload_n 0, 1) := by decide +kernel
theorem d_Orders_explore_20 : decode prog_4_method_5_code 20 = .ok (.aload_n 0, 1) := by decide +kernel
theorem d_Orders_explore_21 : decode prog_4_method_5_code 21 = .ok (.getfield 46, 3) := by decide +kernel
theorem d_Orders_explore_24 : decode prog_4_method_5_code 24 = .ok (.invokevirtual 66, 3) := by decide +kernel
theorem d_Orders_explore_27 : decode prog_4_method_5_code 27 = .ok (.iconst 4, 1) := by decide +kernel
theorem d_Orders_explore_28 : decode prog_4_method_5_code 28 = .ok (.if_icmp .le 7, 3) := by decide +kernel
theorem d_Orders_explore_31 : decode prog_4_method_5_code 31 = .ok (.iconst 1, 1) := by decide +kernel
theorem d_Orders_explore_32 : decode prog_4_method_5_code 32 = .ok (.goto 4, 3) := by decide +kernel
theorem d_Orders_explore_35 : decode prog_4_method_5_code 35 = .ok (.iconst 0, 1) := by decide +kernel
theorem d_Orders_explore_36 : decode prog_4_method_5_code 36 = .ok (.putfield 59, 3) := by decide +kernel
theorem d_Orders_explore_39 : decode prog_4_method_5_code 39 = .ok (.aload_n 0, 1) := by decide +kernel
theorem d_Orders_explore_40 : decode prog_4_method_5_code 40 = .ok (.getfield 55, 3) := by decide +kernel
theorem d_Orders_explore_43 : decode prog_4_method_5_code 43 = .ok (.aload_n 0, 1) := by decide +kernel
theorem d_Orders_explore_44 : decode prog_4_method_5_code 44 = .ok (.getfield 39, 3) := by decide +kernel
theorem d_Orders_explore_47 : decode prog_4_method_5_code 47 = .ok (.iload_n 1, 1) := by decide +kernel
theorem d_Orders_explore_48 : decode prog_4_method_5_code 48 = .ok (.invokevirtual 71, 3) := by decide +kernel
theorem d_Orders_explore_51 : decode prog_4_method_5_code 51 = .ok (.aload_n 0, 1) := by decide +kernel
theorem d_Orders_explore_52 : decode prog_4_method_5_code 52 = .ok (.iconst (-1), 1) := by decide +kernel
theorem d_Orders_explore_53 : decode prog_4_method_5_code 53 = .ok (.iconst 0, 1) := by decide +kernel
theorem d_Orders_explore_54 : decode prog_4_method_5_code 54 = .ok (.invokevirtual 75, 3) := by decide +kernel
theorem d_Orders_explore_57 : decode prog_4_method_5_code 57 = .ok (.pop, 1) := by decide +kernel
theorem d_Orders_explore_58 : decode prog_4_method_5_code 58 = .ok (.iconst 0, 1) := by decide +kernel
theorem d_Orders_explore_59 : decode prog_4_method_5_code 59 = .ok (.istore_n 2, 1) := by decide +kernel
theorem d_Orders_explore_60 : decode prog_4_method_5_code 60 = .ok (.iload_n 2, 1) := by decide +kernel
theorem d_Orders_explore_61 : decode prog_4_method_5_code 61 = .ok (.aload_n 0, 1) := by decide +kernel
theorem d_Orders_explore_62 : decode prog_4_method_5_code 62 = .ok (.getfield 63, 3) := by decide +kernel
theorem d_Orders_explore_65 : decode prog_4_method_5_code 65 = .ok (.if_icmp .ge 96, 3) := by decide +kernel
theorem d_Orders_explore_68 : decode prog_4_method_5_code 68 = .ok (.iload_n 2, 1) := by decide +kernel
theorem d_Orders_explore_69 : decode prog_4_method_5_code 69 = .ok (.sipush 150, 3) := by decide +kernel
theorem d_Orders_explore_72 : decode prog_4_method_5_code 72 = .ok (.if_icmp .ge 89, 3) := by decide +kernel
theorem d_Orders_explore_75 : decode prog_4_method_5_code 75 = .ok (.aload_n 0, 1) := by decide +kernel
theorem d_Orders_explore_76 : decode prog_4_method_5_code 76 = .ok (.getfield 13, 3) := by decide +kernel
theorem d_Orders_explore_79 : decode prog_4_method_5_code 79 = .ok (.iload_n 2, 1) := by decide +kernel
theorem d_Orders_explore_80 : decode prog_4_method_5_code 80 = .ok (.aaload, 1) := by decide +kernel
theorem d_Orders_explore_81 : decode prog_4_method_5_code 81 = .ok (.bipush 120, 2) := by decide +kernel
theorem d_Orders_explore_83 : decode prog_4_method_5_code 83 = .ok (.iaload, 1) := by decide +kernel
theorem d_Orders_explore_84 : decode prog_4_method_5_code 84 = .ok (.iconst 1, 1) := by decide +kernel
theorem d_Orders_explore_85 : decode prog_4_method_5_code 85 = .ok (.if_icmp .ne 7, 3) := by decide +kernel
theorem d_Orders_explore_88 : decode prog_4_method_5_code 88 = .ok (.iconst (-1), 1) := by decide +kernel
theorem d_Orders_explore_89 : decode prog_4_method_5_code 89 = .ok (.goto 4, 3) := by decide +kernel
theorem d_Orders_explore_92 : decode prog_4_method_5_code 92 = .ok (.iconst 3, 1) := by decide +kernel
theorem d_Orders_explore_93 : decode prog_4_method_5_code 93 = .ok (.istore_n 3, 1) := by decide +kernel
theorem d_Orders_explore_94 : decode prog_4_method_5_code 94 = .ok (.iconst 0, 1) := by decide +kernel
theorem d_Orders_explore_95 : decode prog_4_method_5_code 95 = .ok (.istore 4, 2) := by decide +kernel
theorem d_Orders_explore_97 : decode prog_4_method_5_code 97 = .ok (.iload 4, 2) := by decide +kernel
theorem d_Orders_explore_99 : decode prog_4_method_5_code 99 = .ok (.iload_n 3, 1) := by decide +kernel
theorem d_Orders_explore_100 : decode prog_4_method_5_code 100 = .ok (.if_icmp .gt 55, 3) := by decide +kernel
theorem d_Orders_explore_103 : decode prog_4_method_5_code 103 = .ok (.aload_n 0, 1) := by decide +kernel
theorem d_Orders_explore_104 : decode prog_4_method_5_code 104 = .ok (.aload_n 0, 1) := by decide +kernel
theorem d_Orders_explore_105 : decode prog_4_method_5_code 105 = .ok (.getfield 13, 3) := by decide +kernel
theorem d_Orders_explore_108 : decode prog_4_method_5_code 108 = .ok (.iload_n 2, 1) := by decide +kernel
theorem d_Orders_explore_109 : decode prog_4_method_5_code 109 = .ok (.aaload, 1) := by decide +kernel
theorem d_Orders_explore_110 : decode prog_4_method_5_code 110 = .ok (.iload 4, 2) := by decide +kernel
theorem d_Orders_explore_112 : decode prog_4_method_5_code 112 = .ok (.invokevirtual 79, 3) := by decide +kernel
theorem d_Orders_explore_115 : decode prog_4_method_5_code 115 = .ok (.istore 5, 2) := by decide +kernel
theorem d_Orders_explore_117 : decode prog_4_method_5_code 117 = .ok (.iconst 0, 1) := by decide +kernel
theorem d_Orders_explore_118 : decode prog_4_method_5_code 118 = .ok (.istore 6, 2) := by decide +kernel
theorem d_Orders_explore_120 : decode prog_4_method_5_code 120 = .ok (.iload 6, 2) := by decide +kernel
theorem d_Orders_explore_122 : decode prog_4_method_5_code 122 = .ok (.iload 5, 2) := by decide +kernel
theorem d_Orders_explore_124 : decode prog_4_method_5_code 124 = .ok (.if_icmp .ge 25, 3) := by decide +kernel
theorem d_Orders_explore_127 : decode prog_4_method_5_code 127 = .ok (.aload_n 0, 1) := by decide +kernel
theorem d_Orders_explore_128 : decode prog_4_method_5_code 128 = .ok (.getfield 59, 3) := by decide +kernel
theorem d_Orders_explore_131 : decode prog_4_method_5_code 131 = .ok (.ifCond .ne 18, 3) := by decide +kernel
theorem d_Orders_explore_134 : decode prog_4_method_5_code 134 = .ok (.aload_n 0, 1) := by decide +kernel
theorem d_Orders_explore_135 : decode prog_4_method_5_code 135 = .ok (.iload_n 2, 1) := by decide +kernel
theorem d_Orders_explore_136 : decode prog_4_method_5_code 136 = .ok (.iload 4, 2) := by decide +kernel
theorem d_Orders_explore_138 : decode prog_4_method_5_code 138 = .ok (.iload 6, 2) := by decide +kernel
theorem d_Orders_explore_140 : decode prog_4_method_5_code 140 = .ok (.invokevirtual 83, 3) := by decide +kernel
theorem d_Orders_explore_143 : decode prog_4_method_5_code 143 = .ok (.iinc 6 1, 3) := by decide +kernel
theorem d_Orders_explore_146 : decode prog_4_method_5_code 146 = .ok (.goto (-26), 3) := by decide +kernel
theorem d_Orders_explore_149 : decode prog_4_method_5_code 149 = .ok (.iinc 4 1, 3) := by decide +kernel
theorem d_Orders_explore_152 : decode prog_4_method_5_code 152 = .ok (.goto (-55), 3) := by decide +kernel
theorem d_Orders_explore_155 : decode prog_4_method_5_code 155 = .ok (.iinc 2 1, 3) := by decide +kernel
theorem d_Orders_explore_158 : decode prog_4_method_5_code 158 = .ok (.goto (-98), 3) := by decide +kernel
theorem d_Orders_explore_161 : decode prog_4_method_5_code 161 = .ok (.return_, 1) := by decide +kernel
set_option maxHeartbeats 4000000 in
set_option maxRecDepth 100000 in
theorem r_Orders_explore_120_b {p : Program} {l : Launch} {e : Env} {s : State} {m : MethodId} {args : Array Value} {below : List Frame} {meth : Method} {c : Code} {G : zG} {K : Nat} (X : zX p s m args meth c "AllHome$Orders" prog_4_method_5_code 7 none G (zA G K)) {h' : zH} (a0 : Nat) (x2 : Int32) (x3 : Int32) (x4 : Int32) (x5 : Int32) (k60 : (Int32 × zH) → Option zH) (hk60 : ∀ (w : Int32 × zH), k60 w = some h' → ∀ (H : Heap) (locs : List Loc) (ls : Array Slot), zI G K s (zA G K) H locs w.2 → lv_has ls 7 [(0, .ref (G.1 a0)), (2, .int w.1)] → W p l e (zR 5) s m args below meth c H locs 0 0 (MQ below (zQv G K h') args s 0 0 (zA G K)) (F0 m 60 ls [])) (k97 : (Int32 × zH) → Option zH) (hk97 : ∀ (w : Int32 × zH), k97 w = some h' → ∀ (H : Heap) (locs : List Loc) (ls : Array Slot), zI G K s (zA G K) H locs w.2 → lv_has ls 7 [(0, .ref (G.1 a0)), (2, .int x2), (3, .int x3), (4, .int w.1)] → W p l e (zR 5) s m args below meth c H locs 0 0 (MQ below (zQv G K h') args s 0 0 (zA G K)) (F0 m 97 ls [])) (k120 : (Int32 × zH) → Option zH) (hk120 : ∀ (w : Int32 × zH), k120 w = some h' → ∀ (H : Heap) (locs : List Loc) (ls : Array Slot), zI G K s (zA G K) H locs w.2 → lv_has ls 7 [(0, .ref (G.1 a0)), (2, .int x2), (3, .int x3), (4, .int x4), (5, .int x5), (6, .int w.1)] → W p l e (zR 5) s m args below meth c H locs 0 0 (MQ below (zQv G K h') args s 0 0 (zA G K)) (F0 m 120 ls [])) (u : Int32 × zH) (hm : g_Orders_explore_120 a0 x2 x3 x4 x5 k60 k97 k120 u = some h') {H : Heap} {locs : List Loc} {ls : Array Slot} (hI : zI G K s (zA G K) H locs u.2) (hl : lv_has ls 7 [(0, .ref (G.1 a0)), (2, .int x2), (3, .int x3), (4, .int x4), (5, .int x5), (6, .int u.1)]) : W p l e (zR 5) s m args below meth c H locs 0 0 (MQ below (zQv G K h') args s 0 0 (zA G K)) (F0 m 120 ls []) := by
  obtain ⟨hx, hb, hml, hown, hts, hr, hlocks, hK, hST, hNs⟩ := id X
  unfold g_Orders_explore_120 at hm
  refine lv_iload hx hb d_Orders_explore_120 (lv_at hl 5 rfl) ?_
  refine lv_iload hx hb d_Orders_explore_122 (lv_at hl 4 rfl) ?_
  refine lv_icmp_ge (tgt := 149) hx hb d_Orders_explore_124 (by decide) (fun hc124 => ?_) (fun hc124 => ?_)
  · replace hm := zif_t hc124 hm
    refine lv_iinc (v := (x4 + (nI 1))) (lv' := [(4, .int (x4 + (nI 1))), (0, .ref (G.1 a0)), (2, .int x2), (3, .int x3), (5, .int x5), (6, .int u.1)]) hx hb d_Orders_explore_149 hl (k := 3) rfl (congrArg (fun z => x4 + z) (show Int32.ofInt (1) = (nI 1) by decide)) (by decide) rfl (fun ls hl => ?_)
    refine lv_goto (tgt := 97) hx hb d_Orders_explore_152 (by decide) ?_
    obtain ⟨g0, e0⟩ : ∃ z, z = (x4 + (nI 1)) := ⟨_, rfl⟩
    rw [← e0] at hm hl
    obtain ⟨g1, e1⟩ : ∃ z, z = u.2 := ⟨_, rfl⟩
    rw [← e1] at hm hI
    exact hk97 (g0, g1) hm _ _ _ hI (lv_sub hl [1, 2, 3, 0] rfl)
  · replace hm := zif_f hc124 hm
    refine lv_aload_n hx hb d_Orders_explore_127 rfl (lv_at hl 0 rfl) ?_
    obtain ⟨v128, hv, hm⟩ := zbd hm
    refine z_getI X hI F_Orders_59 hv d_Orders_explore_128 ?_
    refine lv_if_ne (tgt := 149) hx hb d_Orders_explore_131 (by decide) (fun hc131 => ?_) (fun hc131 => ?_)
    · replace hm := zif_f hc131 hm
      refine lv_iinc (v := (x4 + (nI 1))) (lv' := [(4, .int (x4 + (nI 1))), (0, .ref (G.1 a0)), (2, .int x2), (3, .int x3), (5, .int x5), (6, .int u.1)]) hx hb d_Orders_explore_149 hl (k := 3) rfl (congrArg (fun z => x4 + z) (show Int32.ofInt (1) = (nI 1) by decide)) (by decide) rfl (fun ls hl => ?_)
      refine lv_goto (tgt := 97) hx hb d_Orders_explore_152 (by decide) ?_
      obtain ⟨g0, e0⟩ : ∃ z, z = (x4 + (nI 1)) := ⟨_, rfl⟩
      rw [← e0] at hm hl
      obtain ⟨g1, e1⟩ : ∃ z, z = u.2 := ⟨_, rfl⟩
      rw [← e1] at hm hI
      exact hk97 (g0, g1) hm _ _ _ hI (lv_sub hl [1, 2, 3, 0] rfl)
    · replace hm := zif_t hc131 hm
      refine lv_aload_n hx hb d_Orders_explore_134 rfl (lv_at hl 0 rfl) ?_
      refine lv_iload_n hx hb d_Orders_explore_135 rfl (lv_at hl 1 rfl) ?_
      refine lv_iload hx hb d_Orders_explore_136 (lv_at hl 3 rfl) ?_
      refine lv_iload hx hb d_Orders_explore_138 (lv_at hl 5 rfl) ?_
      obtain ⟨h140, hv, hm⟩ := zbd hm
      obtain ⟨hq, hv⟩ := zcv_at hv
      refine z_cv hI (z_runV (As := [.int x2, .int x4, .int u.1]) (rest := []) X hI hl.1 (c_Orders_tryStep l G K a0 x2 x4 u.1 u.2 _ hv) C_Orders_83 rfl hq (Nat.le_of_ble_eq_true rfl) ⟨Nat.le_of_ble_eq_true rfl, Nat.le_of_ble_eq_true rfl, Nat.zero_le _, Nat.zero_le _⟩ rfl d_Orders_explore_140) (fun H locs hI => ?_)
      refine lv_iinc (v := (u.1 + (nI 1))) (lv' := [(6, .int (u.1 + (nI 1))), (0, .ref (G.1 a0)), (2, .int x2), (3, .int x3), (4, .int x4), (5, .int x5)]) hx hb d_Orders_explore_143 hl (k := 5) rfl (congrArg (fun z => u.1 + z) (show Int32.ofInt (1) = (nI 1) by decide)) (by decide) rfl (fun ls hl => ?_)
      refine lv_goto (tgt := 120) hx hb d_Orders_explore_146 (by decide) ?_
      obtain ⟨g0, e0⟩ : ∃ z, z = (u.1 + (nI 1)) := ⟨_, rfl⟩
      rw [← e0] at hm hl
      exact hk120 (g0, h140) hm _ _ _ hI (lv_sub hl [1, 2, 3, 4, 5, 0] rfl)
theorem r_Orders_explore_120 {p : Program} {l : Launch} {e : Env} {s : State} {m : MethodId} {args : Array Value} {below : List Frame} {meth : Method} {c : Code} {G : zG} {K : Nat} (X : zX p s m args meth c "AllHome$Orders" prog_4_method_5_code 7 none G (zA G K)) {h' : zH} (a0 : Nat) (x2 : Int32) (x3 : Int32) (x4 : Int32) (x5 : Int32) (k60 : (Int32 × zH) → Option zH) (hk60 : ∀ (w : Int32 × zH), k60 w = some h' → ∀ (H : Heap) (locs : List Loc) (ls : Array Slot), zI G K s (zA G K) H locs w.2 → lv_has ls 7 [(0, .ref (G.1 a0)), (2, .int w.1)] → W p l e (zR 5) s m args below meth c H locs 0 0 (MQ below (zQv G K h') args s 0 0 (zA G K)) (F0 m 60 ls [])) (k97 : (Int32 × zH) → Option zH) (hk97 : ∀ (w : Int32 × zH), k97 w = some h' → ∀ (H : Heap) (locs : List Loc) (ls : Array Slot), zI G K s (zA G K) H locs w.2 → lv_has ls 7 [(0, .ref (G.1 a0)), (2, .int x2), (3, .int x3), (4, .int w.1)] → W p l e (zR 5) s m args below meth c H locs 0 0 (MQ below (zQv G K h') args s 0 0 (zA G K)) (F0 m 97 ls [])) : ∀ (n : Nat) (w : Int32 × zH), zloop (g_Orders_explore_120 a0 x2 x3 x4 x5 k60 k97) n w = some h' → ∀ (H : Heap) (locs : List Loc) (ls : Array Slot), zI G K s (zA G K) H locs w.2 → lv_has ls 7 [(0, .ref (G.1 a0)), (2, .int x2), (3, .int x3), (4, .int x4), (5, .int x5), (6, .int w.1)] → W p l e (zR 5) s m args below meth c H locs 0 0 (MQ below (zQv G K h') args s 0 0 (zA G K)) (F0 m 120 ls []) := by
  intro n
  induction n with
  | zero => intro w hm; cases hm
  | succ n ih => intro w hm H locs ls hI hl; exact r_Orders_explore_120_b X a0 x2 x3 x4 x5 k60 hk60 k97 hk97 (zloop (g_Orders_explore_120 a0 x2 x3 x4 x5 k60 k97) n) ih w (zls hm) hI hl
set_option maxHeartbeats 4000000 in
set_option maxRecDepth 100000 in
theorem r_Orders_explore_97_b {p : Program} {l : Launch} {e : Env} {s : State} {m : MethodId} {args : Array Value} {below : List Frame} {meth : Method} {c : Code} {G : zG} {K : Nat} (X : zX p s m args meth c "AllHome$Orders" prog_4_method_5_code 7 none G (zA G K)) {h' : zH} (a0 : Nat) (x2 : Int32) (x3 : Int32) (k60 : (Int32 × zH) → Option zH) (hk60 : ∀ (w : Int32 × zH), k60 w = some h' → ∀ (H : Heap) (locs : List Loc) (ls : Array Slot), zI G K s (zA G K) H locs w.2 → lv_has ls 7 [(0, .ref (G.1 a0)), (2, .int w.1)] → W p l e (zR 5) s m args below meth c H locs 0 0 (MQ below (zQv G K h') args s 0 0 (zA G K)) (F0 m 60 ls [])) (k97 : (Int32 × zH) → Option zH) (hk97 : ∀ (w : Int32 × zH), k97 w = some h' → ∀ (H : Heap) (locs : List Loc) (ls : Array Slot), zI G K s (zA G K) H locs w.2 → lv_has ls 7 [(0, .ref (G.1 a0)), (2, .int x2), (3, .int x3), (4, .int w.1)] → W p l e (zR 5) s m args below meth c H locs 0 0 (MQ below (zQv G K h') args s 0 0 (zA G K)) (F0 m 97 ls [])) (u : Int32 × zH) (hm : g_Orders_explore_97 a0 x2 x3 k60 k97 u = some h') {H : Heap} {locs : List Loc} {ls : Array Slot} (hI : zI G K s (zA G K) H locs u.2) (hl : lv_has ls 7 [(0, .ref (G.1 a0)), (2, .int x2), (3, .int x3), (4, .int u.1)]) : W p l e (zR 5) s m args below meth c H locs 0 0 (MQ below (zQv G K h') args s 0 0 (zA G K)) (F0 m 97 ls []) := by
  obtain ⟨hx, hb, hml, hown, hts, hr, hlocks, hK, hST, hNs⟩ := id X
  unfold g_Orders_explore_97 at hm
  refine lv_iload hx hb d_Orders_explore_97 (lv_at hl 3 rfl) ?_
  refine lv_iload_n hx hb d_Orders_explore_99 rfl (lv_at hl 2 rfl) ?_
  refine lv_icmp_gt (tgt := 155) hx hb d_Orders_explore_100 (by decide) (fun hc100 => ?_) (fun hc100 => ?_)
  · replace hm := zif_t hc100 hm
    refine lv_iinc (v := (x2 + (nI 1))) (lv' := [(2, .int (x2 + (nI 1))), (0, .ref (G.1 a0)), (3, .int x3), (4, .int u.1)]) hx hb d_Orders_explore_155 hl (k := 1) rfl (congrArg (fun z => x2 + z) (show Int32.ofInt (1) = (nI 1) by decide)) (by decide) rfl (fun ls hl => ?_)
    refine lv_goto (tgt := 60) hx hb d_Orders_explore_158 (by decide) ?_
    obtain ⟨g0, e0⟩ : ∃ z, z = (x2 + (nI 1)) := ⟨_, rfl⟩
    rw [← e0] at hm hl
    obtain ⟨g1, e1⟩ : ∃ z, z = u.2 := ⟨_, rfl⟩
    rw [← e1] at hm hI
    exact hk60 (g0, g1) hm _ _ _ hI (lv_sub hl [1, 0] rfl)
  · replace hm := zif_f hc100 hm
    refine lv_aload_n hx hb d_Orders_explore_103 rfl (lv_at hl 0 rfl) ?_
    refine lv_aload_n hx hb d_Orders_explore_104 rfl (lv_at hl 0 rfl) ?_
    obtain ⟨v105, hv, hm⟩ := zbd hm
    refine z_getR X hI F_Orders_13 hv d_Orders_explore_105 ?_
    refine lv_iload_n hx hb d_Orders_explore_108 rfl (lv_at hl 1 rfl) ?_
    obtain ⟨v109, hv, hm⟩ := zbd hm
    refine z_aald X hI 5 (.array .int) rfl rfl hv d_Orders_explore_109 ?_
    refine lv_iload hx hb d_Orders_explore_110 (lv_at hl 3 rfl) ?_
    obtain ⟨v112, hv, hm⟩ := zbd hm
    obtain ⟨hq, hv⟩ := zcv_at hv
    refine z_ci hI (z_runV (As := [.ref (G.1 v109), .int u.1]) (rest := []) X hI hl.1 (c_Orders_numbersOf l G K a0 v109 u.1 u.2 _ hv) C_Orders_79 rfl hq (Nat.le_of_ble_eq_true rfl) ⟨Nat.le_of_ble_eq_true rfl, Nat.le_of_ble_eq_true rfl, Nat.zero_le _, Nat.zero_le _⟩ rfl d_Orders_explore_112) (fun H locs hI => ?_)
    refine lv_istore (lv' := [(5, .int v112), (0, .ref (G.1 a0)), (2, .int x2), (3, .int x3), (4, .int u.1)]) hx hb d_Orders_explore_115 hl (by decide) rfl (fun ls hl => ?_)
    refine lv_iconst (v := (nI 0)) hx hb d_Orders_explore_117 (by decide) ?_
    refine lv_istore (lv' := [(6, .int (nI 0)), (5, .int v112), (0, .ref (G.1 a0)), (2, .int x2), (3, .int x3), (4, .int u.1)]) hx hb d_Orders_explore_118 hl (by decide) rfl (fun ls hl => ?_)
    obtain ⟨g1, e1⟩ : ∃ z, z = u.2 := ⟨_, rfl⟩
    rw [← e1] at hm hI
    exact r_Orders_explore_120 X a0 x2 x3 u.1 v112 k60 hk60 k97 hk97 zN ((nI 0), g1) hm _ _ _ hI (lv_sub hl [2, 3, 4, 5, 1, 0] rfl)
theorem r_Orders_explore_97 {p : Program} {l : Launch} {e : Env} {s : State} {m : MethodId} {args : Array Value} {below : List Frame} {meth : Method} {c : Code} {G : zG} {K : Nat} (X : zX p s m args meth c "AllHome$Orders" prog_4_method_5_code 7 none G (zA G K)) {h' : zH} (a0 : Nat) (x2 : Int32) (x3 : Int32) (k60 : (Int32 × zH) → Option zH) (hk60 : ∀ (w : Int32 × zH), k60 w = some h' → ∀ (H : Heap) (locs : List Loc) (ls : Array Slot), zI G K s (zA G K) H locs w.2 → lv_has ls 7 [(0, .ref (G.1 a0)), (2, .int w.1)] → W p l e (zR 5) s m args below meth c H locs 0 0 (MQ below (zQv G K h') args s 0 0 (zA G K)) (F0 m 60 ls [])) : ∀ (n : Nat) (w : Int32 × zH), zloop (g_Orders_explore_97 a0 x2 x3 k60) n w = some h' → ∀ (H : Heap) (locs : List Loc) (ls : Array Slot), zI G K s (zA G K) H locs w.2 → lv_has ls 7 [(0, .ref (G.1 a0)), (2, .int x2), (3, .int x3), (4, .int w.1)] → W p l e (zR 5) s m args below meth c H locs 0 0 (MQ below (zQv G K h') args s 0 0 (zA G K)) (F0 m 97 ls []) := by
  intro n
  induction n with
  | zero => intro w hm; cases hm
  | succ n ih => intro w hm H locs ls hI hl; exact r_Orders_explore_97_b X a0 x2 x3 k60 hk60 (zloop (g_Orders_explore_97 a0 x2 x3 k60) n) ih w (zls hm) hI hl
set_option maxHeartbeats 4000000 in
set_option maxRecDepth 100000 in
theorem r_Orders_explore_60_b {p : Program} {l : Launch} {e : Env} {s : State} {m : MethodId} {args : Array Value} {below : List Frame} {meth : Method} {c : Code} {G : zG} {K : Nat} (X : zX p s m args meth c "AllHome$Orders" prog_4_method_5_code 7 none G (zA G K)) {h' : zH} (a0 : Nat) (k60 : (Int32 × zH) → Option zH) (hk60 : ∀ (w : Int32 × zH), k60 w = some h' → ∀ (H : Heap) (locs : List Loc) (ls : Array Slot), zI G K s (zA G K) H locs w.2 → lv_has ls 7 [(0, .ref (G.1 a0)), (2, .int w.1)] → W p l e (zR 5) s m args below meth c H locs 0 0 (MQ below (zQv G K h') args s 0 0 (zA G K)) (F0 m 60 ls [])) (u : Int32 × zH) (hm : g_Orders_explore_60 a0 k60 u = some h') {H : Heap} {locs : List Loc} {ls : Array Slot} (hI : zI G K s (zA G K) H locs u.2) (hl : lv_has ls 7 [(0, .ref (G.1 a0)), (2, .int u.1)]) : W p l e (zR 5) s m args below meth c H locs 0 0 (MQ below (zQv G K h') args s 0 0 (zA G K)) (F0 m 60 ls []) := by
  obtain ⟨hx, hb, hml, hown, hts, hr, hlocks, hK, hST, hNs⟩ := id X
  unfold g_Orders_explore_60 at hm
  refine lv_iload_n hx hb d_Orders_explore_60 rfl (lv_at hl 1 rfl) ?_
  refine lv_aload_n hx hb d_Orders_explore_61 rfl (lv_at hl 0 rfl) ?_
  obtain ⟨v62, hv, hm⟩ := zbd hm
  refine z_getI X hI F_Orders_63 hv d_Orders_explore_62 ?_
  refine lv_icmp_ge (tgt := 161) hx hb d_Orders_explore_65 (by decide) (fun hc65 => ?_) (fun hc65 => ?_)
  · replace hm := zif_t hc65 hm
    obtain rfl := zs1 hm
    exact z_vret X hI d_Orders_explore_161
  · replace hm := zif_f hc65 hm
    refine lv_iload_n hx hb d_Orders_explore_68 rfl (lv_at hl 1 rfl) ?_
    refine lv_sipush (v := (nI 150)) hx hb d_Orders_explore_69 (by decide) ?_
    refine lv_icmp_ge (tgt := 161) hx hb d_Orders_explore_72 (by decide) (fun hc72 => ?_) (fun hc72 => ?_)
    · replace hm := zif_t hc72 hm
      obtain rfl := zs1 hm
      exact z_vret X hI d_Orders_explore_161
    · replace hm := zif_f hc72 hm
      refine lv_aload_n hx hb d_Orders_explore_75 rfl (lv_at hl 0 rfl) ?_
      obtain ⟨v76, hv, hm⟩ := zbd hm
      refine z_getR X hI F_Orders_13 hv d_Orders_explore_76 ?_
      refine lv_iload_n hx hb d_Orders_explore_79 rfl (lv_at hl 1 rfl) ?_
      obtain ⟨v80, hv, hm⟩ := zbd hm
      refine z_aald X hI 5 (.array .int) rfl rfl hv d_Orders_explore_80 ?_
      refine lv_bipush (v := (nI 120)) hx hb d_Orders_explore_81 (by decide) ?_
      obtain ⟨v83, hv, hm⟩ := zbd hm
      refine z_iald X hI hv d_Orders_explore_83 ?_
      refine lv_iconst (v := (nI 1)) hx hb d_Orders_explore_84 (by decide) ?_
      refine lv_icmp_ne (tgt := 92) hx hb d_Orders_explore_85 (by decide) (fun hc85 => ?_) (fun hc85 => ?_)
      · replace hm := zif_f hc85 hm
        refine lv_iconst (v := (nI 3)) hx hb d_Orders_explore_92 (by decide) ?_
        refine lv_istore_n (lv' := [(3, .int (nI 3)), (0, .ref (G.1 a0)), (2, .int u.1)]) hx hb d_Orders_explore_93 rfl hl (by decide) rfl (fun ls hl => ?_)
        refine lv_iconst (v := (nI 0)) hx hb d_Orders_explore_94 (by decide) ?_
        refine lv_istore (lv' := [(4, .int (nI 0)), (3, .int (nI 3)), (0, .ref (G.1 a0)), (2, .int u.1)]) hx hb d_Orders_explore_95 hl (by decide) rfl (fun ls hl => ?_)
        obtain ⟨g1, e1⟩ : ∃ z, z = u.2 := ⟨_, rfl⟩
        rw [← e1] at hm hI
        exact r_Orders_explore_97 X a0 u.1 (nI 3) k60 hk60 zN ((nI 0), g1) hm _ _ _ hI (lv_sub hl [2, 3, 1, 0] rfl)
      · replace hm := zif_t hc85 hm
        refine lv_iconst (v := (-1 : Int32)) hx hb d_Orders_explore_88 (by decide) ?_
        refine lv_goto (tgt := 93) hx hb d_Orders_explore_89 (by decide) ?_
        refine lv_istore_n (lv' := [(3, .int (-1 : Int32)), (0, .ref (G.1 a0)), (2, .int u.1)]) hx hb d_Orders_explore_93 rfl hl (by decide) rfl (fun ls hl => ?_)
        refine lv_iconst (v := (nI 0)) hx hb d_Orders_explore_94 (by decide) ?_
        refine lv_istore (lv' := [(4, .int (nI 0)), (3, .int (-1 : Int32)), (0, .ref (G.1 a0)), (2, .int u.1)]) hx hb d_Orders_explore_95 hl (by decide) rfl (fun ls hl => ?_)
        obtain ⟨g1, e1⟩ : ∃ z, z = u.2 := ⟨_, rfl⟩
        rw [← e1] at hm hI
        exact r_Orders_explore_97 X a0 u.1 (-1 : Int32) k60 hk60 zN ((nI 0), g1) hm _ _ _ hI (lv_sub hl [2, 3, 1, 0] rfl)
theorem r_Orders_explore_60 {p : Program} {l : Launch} {e : Env} {s : State} {m : MethodId} {args : Array Value} {below : List Frame} {meth : Method} {c : Code} {G : zG} {K : Nat} (X : zX p s m args meth c "AllHome$Orders" prog_4_method_5_code 7 none G (zA G K)) {h' : zH} (a0 : Nat) : ∀ (n : Nat) (w : Int32 × zH), zloop (g_Orders_explore_60 a0) n w = some h' → ∀ (H : Heap) (locs : List Loc) (ls : Array Slot), zI G K s (zA G K) H locs w.2 → lv_has ls 7 [(0, .ref (G.1 a0)), (2, .int w.1)] → W p l e (zR 5) s m args below meth c H locs 0 0 (MQ below (zQv G K h') args s 0 0 (zA G K)) (F0 m 60 ls []) := by
  intro n
  induction n with
  | zero => intro w hm; cases hm
  | succ n ih => intro w hm H locs ls hI hl; exact r_Orders_explore_60_b X a0 (zloop (g_Orders_explore_60 a0) n) ih w (zls hm) hI hl
set_option maxHeartbeats 4000000 in
set_option maxRecDepth 100000 in
theorem r_Orders_explore_36 {p : Program} {l : Launch} {e : Env} {s : State} {m : MethodId} {args : Array Value} {below : List Frame} {meth : Method} {c : Code} {G : zG} {K : Nat} (X : zX p s m args meth c "AllHome$Orders" prog_4_method_5_code 7 none G (zA G K)) {h' : zH} (a0 : Nat) (x1 : Int32) (c0 : Nat) (y1 : Int32) (h : zH) (hm : g_Orders_explore_36 a0 x1 c0 y1 h = some h') {H : Heap} {locs : List Loc} {ls : Array Slot} (hI : zI G K s (zA G K) H locs h) (hl : lv_has ls 7 [(0, .ref (G.1 a0)), (1, .int x1)]) : W p l e (zR 5) s m args below meth c H locs 0 0 (MQ below (zQv G K h') args s 0 0 (zA G K)) (F0 m 36 ls [.int y1, .ref (G.1 c0)]) := by
  obtain ⟨hx, hb, hml, hown, hts, hr, hlocks, hK, hST, hNs⟩ := id X
  unfold g_Orders_explore_36 at hm
  obtain ⟨h36, hv, hm⟩ := zbd hm
  refine z_putZ X hI P_Orders_59 hv d_Orders_explore_36 (fun H locs hI => ?_)
  refine lv_aload_n hx hb d_Orders_explore_39 rfl (lv_at hl 0 rfl) ?_
  obtain ⟨v40, hv, hm⟩ := zbd hm
  refine z_getR X hI F_Orders_55 hv d_Orders_explore_40 ?_
  refine lv_aload_n hx hb d_Orders_explore_43 rfl (lv_at hl 0 rfl) ?_
  obtain ⟨v44, hv, hm⟩ := zbd hm
  refine z_getR X hI F_Orders_39 hv d_Orders_explore_44 ?_
  refine lv_iload_n hx hb d_Orders_explore_47 rfl (lv_at hl 1 rfl) ?_
  obtain ⟨h48, hv, hm⟩ := zbd hm
  obtain ⟨hq, hv⟩ := zcv_at hv
  refine z_cv hI (z_runV (As := [.ref (G.1 v44), .int x1]) (rest := []) X hI hl.1 (c_Rules_begin l G K v40 v44 x1 h36 _ hv) C_Orders_71 rfl hq (Nat.le_of_ble_eq_true rfl) ⟨Nat.le_of_ble_eq_true rfl, Nat.le_of_ble_eq_true rfl, Nat.zero_le _, Nat.zero_le _⟩ rfl d_Orders_explore_48) (fun H locs hI => ?_)
  refine lv_aload_n hx hb d_Orders_explore_51 rfl (lv_at hl 0 rfl) ?_
  refine lv_iconst (v := (-1 : Int32)) hx hb d_Orders_explore_52 (by decide) ?_
  refine lv_iconst (v := (nI 0)) hx hb d_Orders_explore_53 (by decide) ?_
  obtain ⟨v54, h54, hv, hm⟩ := zb2_at hm
  obtain ⟨hq, hv⟩ := zcv_at hv
  refine z_ci hI (z_runV (As := [.int (-1 : Int32), .int (nI 0)]) (rest := []) X hI hl.1 (c_Orders_addSpare l G K a0 (-1 : Int32) (nI 0) h48 _ _ hv) C_Orders_75 rfl hq (Nat.le_of_ble_eq_true rfl) ⟨Nat.le_of_ble_eq_true rfl, Nat.le_of_ble_eq_true rfl, Nat.zero_le _, Nat.zero_le _⟩ rfl d_Orders_explore_54) (fun H locs hI => ?_)
  refine lv_pop hx hb d_Orders_explore_57 rfl ?_
  refine lv_iconst (v := (nI 0)) hx hb d_Orders_explore_58 (by decide) ?_
  refine lv_istore_n (lv' := [(2, .int (nI 0)), (0, .ref (G.1 a0)), (1, .int x1)]) hx hb d_Orders_explore_59 rfl hl (by decide) rfl (fun ls hl => ?_)
  exact r_Orders_explore_60 X a0 zN ((nI 0), h54) hm _ _ _ hI (lv_sub hl [1, 0] rfl)
set_option maxHeartbeats 4000000 in
set_option maxRecDepth 100000 in
theorem r_Orders_explore_0 {p : Program} {l : Launch} {e : Env} {s : State} {m : MethodId} {args : Array Value} {below : List Frame} {meth : Method} {c : Code} {G : zG} {K : Nat} (X : zX p s m args meth c "AllHome$Orders" prog_4_method_5_code 7 none G (zA G K)) {h' : zH} (a0 : Nat) (x1 : Int32) (h : zH) (hm : m_Orders_explore a0 x1 h = some h') {H : Heap} {locs : List Loc} {ls : Array Slot} (hI : zI G K s (zA G K) H locs h) (hl : lv_has ls 7 [(0, .ref (G.1 a0)), (1, .int x1)]) : W p l e (zR 5) s m args below meth c H locs 0 0 (MQ below (zQv G K h') args s 0 0 (zA G K)) (F0 m 0 ls []) := by
  obtain ⟨hx, hb, hml, hown, hts, hr, hlocks, hK, hST, hNs⟩ := id X
  unfold m_Orders_explore at hm
  refine lv_iload_n hx hb d_Orders_explore_0 rfl (lv_at hl 1 rfl) ?_
  refine lv_aload_n hx hb d_Orders_explore_1 rfl (lv_at hl 0 rfl) ?_
  obtain ⟨v2, hv, hm⟩ := zbd hm
  refine z_getI X hI F_Orders_42 hv d_Orders_explore_2 ?_
  refine lv_icmp_ne (tgt := 9) hx hb d_Orders_explore_5 (by decide) (fun hc5 => ?_) (fun hc5 => ?_)
  · replace hm := zif_f hc5 hm
    refine lv_aload_n hx hb d_Orders_explore_9 rfl (lv_at hl 0 rfl) ?_
    refine lv_iload_n hx hb d_Orders_explore_10 rfl (lv_at hl 1 rfl) ?_
    obtain ⟨h11, hv, hm⟩ := zbd hm
    refine z_putI X hI P_Orders_42 hv d_Orders_explore_11 (fun H locs hI => ?_)
    refine lv_aload_n hx hb d_Orders_explore_14 rfl (lv_at hl 0 rfl) ?_
    refine lv_iconst (v := (nI 0)) hx hb d_Orders_explore_15 (by decide) ?_
    obtain ⟨h16, hv, hm⟩ := zbd hm
    refine z_putI X hI P_Orders_63 hv d_Orders_explore_16 (fun H locs hI => ?_)
    refine lv_aload_n hx hb d_Orders_explore_19 rfl (lv_at hl 0 rfl) ?_
    refine lv_aload_n hx hb d_Orders_explore_20 rfl (lv_at hl 0 rfl) ?_
    obtain ⟨v21, hv, hm⟩ := zbd hm
    refine z_getR X hI F_Orders_46 hv d_Orders_explore_21 ?_
    obtain ⟨v24, hv, hm⟩ := zbd hm
    obtain ⟨hq, hv⟩ := zcv_at hv
    refine z_ci hI (z_runV (As := []) (rest := [.ref (G.1 a0)]) X hI hl.1 (c_Huts_size l G K v21 h16 _ hv) C_Orders_66 rfl hq (Nat.le_of_ble_eq_true rfl) ⟨Nat.le_of_ble_eq_true rfl, Nat.le_of_ble_eq_true rfl, Nat.zero_le _, Nat.zero_le _⟩ rfl d_Orders_explore_24) (fun H locs hI => ?_)
    refine lv_iconst (v := (nI 4)) hx hb d_Orders_explore_27 (by decide) ?_
    refine lv_icmp_le (tgt := 35) hx hb d_Orders_explore_28 (by decide) (fun hc28 => ?_) (fun hc28 => ?_)
    · replace hm := zif_t hc28 hm
      refine lv_iconst (v := (nI 0)) hx hb d_Orders_explore_35 (by decide) ?_
      exact r_Orders_explore_36 X a0 x1 a0 (nI 0) h16 hm hI (lv_sub hl [0, 1] rfl)
    · replace hm := zif_f hc28 hm
      refine lv_iconst (v := (nI 1)) hx hb d_Orders_explore_31 (by decide) ?_
      refine lv_goto (tgt := 36) hx hb d_Orders_explore_32 (by decide) ?_
      exact r_Orders_explore_36 X a0 x1 a0 (nI 1) h16 hm hI (lv_sub hl [0, 1] rfl)
  · replace hm := zif_t hc5 hm
    obtain rfl := zs1 hm
    exact z_vret X hI d_Orders_explore_8
set_option maxHeartbeats 4000000 in
set_option maxRecDepth 100000 in
theorem c_Orders_explore (l : Launch) (G : zG) (K : Nat) (a0 : Nat) (x1 : Int32) (h : zH) (h' : zH) (hm : m_Orders_explore a0 x1 h = some h') : zMv l G K y_Orders_explore prog_4_method_5_code 7 5 [.ref (G.1 a0), .int x1] h h' := zMet (by decide +kernel) (Nat.le_of_ble_eq_true rfl) (fun p e s m below meth c ls X hI hl => r_Orders_explore_0 X a0 x1 h hm hI hl)
-- walk of AllHome$Orders.isBig
theorem d_Orders_isBig_0 : decode prog_4_method_3_code 0 = .ok (.aload_n 0, 1) := by decide +kernel
theorem d_Orders_isBig_1 : decode prog_4_method_3_code 1 = .ok (.getfield 59, 3) := by decide +kernel
theorem d_Orders_isBig_4 : decode prog_4_method_3_code 4 = .ok (.ireturn, 1) := by decide +kernel
set_option maxHeartbeats 4000000 in
set_option maxRecDepth 100000 in
theorem r_Orders_isBig_0 {p : Program} {l : Launch} {e : Env} {s : State} {m : MethodId} {args : Array Value} {below : List Frame} {meth : Method} {c : Code} {G : zG} {K : Nat} (X : zX p s m args meth c "AllHome$Orders" prog_4_method_3_code 1 (some .boolean) G (zA G K)) {r : Int32} (a0 : Nat) (h : zH) (hm : m_Orders_isBig a0 h = some r) {H : Heap} {locs : List Loc} {ls : Array Slot} (hI : zI G K s (zA G K) H locs h) (hl : lv_has ls 1 [(0, .ref (G.1 a0))]) : W p l e (zR 0) s m args below meth c H locs 0 0 (MQ below (zQi G K r h) args s 0 0 (zA G K)) (F0 m 0 ls []) := by
  obtain ⟨hx, hb, hml, hown, hts, hr, hlocks, hK, hST, hNs⟩ := id X
  unfold m_Orders_isBig at hm
  refine lv_aload_n hx hb d_Orders_isBig_0 rfl (lv_at hl 0 rfl) ?_
  obtain ⟨v1, hv, hm⟩ := zbd hm
  refine z_getI X hI F_Orders_59 hv d_Orders_isBig_1 ?_
  obtain ⟨hz, hm⟩ := zbl_at hm
  obtain rfl := zs1 hm
  exact z_zret X hI hz d_Orders_isBig_4
set_option maxHeartbeats 4000000 in
set_option maxRecDepth 100000 in
theorem c_Orders_isBig (l : Launch) (G : zG) (K : Nat) (a0 : Nat) (h : zH) (r : Int32) (hm : m_Orders_isBig a0 h = some r) : zMz l G K y_Orders_isBig prog_4_method_3_code 1 0 [.ref (G.1 a0)] h r h := zMet (by decide +kernel) (Nat.le_of_ble_eq_true rfl) (fun p e s m below meth c ls X hI hl => r_Orders_isBig_0 X a0 h hm hI hl)
-- walk of AllHome.goThrough
theorem d_Home_goThrough_0 : decode prog_1_method_34_code 0 = .ok (.aload_n 0, 1) := by decide +kernel
theorem d_Home_goThrough_1 : decode prog_1_method_34_code 1 = .ok (.iload_n 1, 1) := by decide +kernel
theorem d_Home_goThrough_2 : decode prog_1_method_34_code 2 = .ok (.invokevirtual 99, 3) := by decide +kernel
theorem d_Home_goThrough_5 : decode prog_1_method_34_code 5 = .ok (.ifCond .ne 5, 3) := by decide +kernel
theorem d_Home_goThrough_8 : decode prog_1_method_34_code 8 = .ok (.iconst (-1), 1) := by decide +kernel
theorem d_Home_goThrough_9 : decode prog_1_method_34_code 9 = .ok (.ireturn, 1) := by decide +kernel
theorem d_Home_goThrough_10 : decode prog_1_method_34_code 10 = .ok (.aload_n 0, 1) := by decide +kernel
theorem d_Home_goThrough_11 : decode prog_1_method_34_code 11 = .ok (.getfield 16, 3) := by decide +kernel
theorem d_Home_goThrough_14 : decode prog_1_method_34_code 14 = .ok (.invokevirtual 66, 3) := by decide +kernel
theorem d_Home_goThrough_17 : decode prog_1_method_34_code 17 = .ok (.ifCond .ne 6, 3) := by decide +kernel
theorem d_Home_goThrough_20 : decode prog_1_method_34_code 20 = .ok (.bipush (-5), 2) := by decide +kernel
theorem d_Home_goThrough_22 : decode prog_1_method_34_code 22 = .ok (.ireturn, 1) := by decide +kernel
theorem d_Home_goThrough_23 : decode prog_1_method_34_code 23 = .ok (.aload_n 0, 1) := by decide +kernel
theorem d_Home_goThrough_24 : decode prog_1_method_34_code 24 = .ok (.getfield 37, 3) := by decide +kernel
theorem d_Home_goThrough_27 : decode prog_1_method_34_code 27 = .ok (.aload_n 0, 1) := by decide +kernel
theorem d_Home_goThrough_28 : decode prog_1_method_34_code 28 = .ok (.getfield 20, 3) := by decide +kernel
theorem d_Home_goThrough_31 : decode prog_1_method_34_code 31 = .ok (.iload_n 1, 1) := by decide +kernel
theorem d_Home_goThrough_32 : decode prog_1_method_34_code 32 = .ok (.iaload, 1) := by decide +kernel
theorem d_Home_goThrough_33 : decode prog_1_method_34_code 33 = .ok (.invokevirtual 168, 3) := by decide +kernel
theorem d_Home_goThrough_36 : decode prog_1_method_34_code 36 = .ok (.aload_n 0, 1) := by decide +kernel
theorem d_Home_goThrough_37 : decode prog_1_method_34_code 37 = .ok (.getfield 37, 3) := by decide +kernel
theorem d_Home_goThrough_40 : decode prog_1_method_34_code 40 = .ok (.invokevirtual 172, 3) := by decide +kernel
theorem d_Home_goThrough_43 : decode prog_1_method_34_code 43 = .ok (.ifCond .eq 8, 3) := by decide +kernel
theorem d_Home_goThrough_46 : decode prog_1_method_34_code 46 = .ok (.bipush (-4), 2) := by decide +kernel
theorem d_Home_goThrough_48 : decode prog_1_method_34_code 48 = .ok (.goto 4, 3) := by decide +kernel
theorem d_Home_goThrough_51 : decode prog_1_method_34_code 51 = .ok (.iconst 1, 1) := by decide +kernel
theorem d_Home_goThrough_52 : decode prog_1_method_34_code 52 = .ok (.ireturn, 1) := by decide +kernel
set_option maxHeartbeats 4000000 in
set_option maxRecDepth 100000 in
theorem r_Home_goThrough_0 {p : Program} {l : Launch} {e : Env} {s : State} {m : MethodId} {args : Array Value} {below : List Frame} {meth : Method} {c : Code} {G : zG} {K : Nat} (X : zX p s m args meth c "AllHome" prog_1_method_34_code 2 (some .int) G (zA G K)) {r : Int32} {h' : zH} (a0 : Nat) (x1 : Int32) (h : zH) (hm : m_Home_goThrough a0 x1 h = some (r, h')) {H : Heap} {locs : List Loc} {ls : Array Slot} (hI : zI G K s (zA G K) H locs h) (hl : lv_has ls 2 [(0, .ref (G.1 a0)), (1, .int x1)]) : W p l e (zR 6) s m args below meth c H locs 0 0 (MQ below (zQi G K r h') args s 0 0 (zA G K)) (F0 m 0 ls []) := by
  obtain ⟨hx, hb, hml, hown, hts, hr, hlocks, hK, hST, hNs⟩ := id X
  unfold m_Home_goThrough at hm
  refine lv_aload_n hx hb d_Home_goThrough_0 rfl (lv_at hl 0 rfl) ?_
  refine lv_iload_n hx hb d_Home_goThrough_1 rfl (lv_at hl 1 rfl) ?_
  obtain ⟨v2, hv, hm⟩ := zbd hm
  obtain ⟨hq, hv⟩ := zcv_at hv
  refine z_ci hI (z_runV (As := [.int x1]) (rest := []) X hI hl.1 (c_Home_isWay l G K a0 x1 h _ hv) C_Home_99 rfl hq (Nat.le_of_ble_eq_true rfl) ⟨Nat.le_of_ble_eq_true rfl, Nat.le_of_ble_eq_true rfl, Nat.zero_le _, Nat.zero_le _⟩ rfl d_Home_goThrough_2) (fun H locs hI => ?_)
  refine lv_if_ne (tgt := 10) hx hb d_Home_goThrough_5 (by decide) (fun hc5 => ?_) (fun hc5 => ?_)
  · replace hm := zif_f hc5 hm
    refine lv_aload_n hx hb d_Home_goThrough_10 rfl (lv_at hl 0 rfl) ?_
    obtain ⟨v11, hv, hm⟩ := zbd hm
    refine z_getR X hI F_Home_16 hv d_Home_goThrough_11 ?_
    obtain ⟨v14, hv, hm⟩ := zbd hm
    obtain ⟨hq, hv⟩ := zcv_at hv
    refine z_ci hI (z_runV (As := []) (rest := []) X hI hl.1 (c_Huts_size l G K v11 h _ hv) C_Home_66 rfl hq (Nat.le_of_ble_eq_true rfl) ⟨Nat.le_of_ble_eq_true rfl, Nat.le_of_ble_eq_true rfl, Nat.zero_le _, Nat.zero_le _⟩ rfl d_Home_goThrough_14) (fun H locs hI => ?_)
    refine lv_if_ne (tgt := 23) hx hb d_Home_goThrough_17 (by decide) (fun hc17 => ?_) (fun hc17 => ?_)
    · replace hm := zif_f hc17 hm
      refine lv_aload_n hx hb d_Home_goThrough_23 rfl (lv_at hl 0 rfl) ?_
      obtain ⟨v24, hv, hm⟩ := zbd hm
      refine z_getR X hI F_Home_37 hv d_Home_goThrough_24 ?_
      refine lv_aload_n hx hb d_Home_goThrough_27 rfl (lv_at hl 0 rfl) ?_
      obtain ⟨v28, hv, hm⟩ := zbd hm
      refine z_getR X hI F_Home_20 hv d_Home_goThrough_28 ?_
      refine lv_iload_n hx hb d_Home_goThrough_31 rfl (lv_at hl 1 rfl) ?_
      obtain ⟨v32, hv, hm⟩ := zbd hm
      refine z_iald X hI hv d_Home_goThrough_32 ?_
      obtain ⟨h33, hv, hm⟩ := zbd hm
      obtain ⟨hq, hv⟩ := zcv_at hv
      refine z_cv hI (z_runV (As := [.int v32]) (rest := []) X hI hl.1 (c_Orders_explore l G K v24 v32 h _ hv) C_Home_168 rfl hq (Nat.le_of_ble_eq_true rfl) ⟨Nat.le_of_ble_eq_true rfl, Nat.le_of_ble_eq_true rfl, Nat.zero_le _, Nat.zero_le _⟩ rfl d_Home_goThrough_33) (fun H locs hI => ?_)
      refine lv_aload_n hx hb d_Home_goThrough_36 rfl (lv_at hl 0 rfl) ?_
      obtain ⟨v37, hv, hm⟩ := zbd hm
      refine z_getR X hI F_Home_37 hv d_Home_goThrough_37 ?_
      obtain ⟨v40, hv, hm⟩ := zbd hm
      obtain ⟨hq, hv⟩ := zcv_at hv
      refine z_ci hI (z_runV (As := []) (rest := []) X hI hl.1 (c_Orders_isBig l G K v37 h33 _ hv) C_Home_172 rfl hq (Nat.le_of_ble_eq_true rfl) ⟨Nat.le_of_ble_eq_true rfl, Nat.le_of_ble_eq_true rfl, Nat.zero_le _, Nat.zero_le _⟩ rfl d_Home_goThrough_40) (fun H locs hI => ?_)
      refine lv_if_eq (tgt := 51) hx hb d_Home_goThrough_43 (by decide) (fun hc43 => ?_) (fun hc43 => ?_)
      · replace hm := zif_t hc43 hm
        refine lv_iconst (v := (nI 1)) hx hb d_Home_goThrough_51 (by decide) ?_
        obtain ⟨rfl, rfl⟩ := zs2 hm
        exact z_iret X hI d_Home_goThrough_52
      · replace hm := zif_f hc43 hm
        refine lv_bipush (v := (-4 : Int32)) hx hb d_Home_goThrough_46 (by decide) ?_
        refine lv_goto (tgt := 52) hx hb d_Home_goThrough_48 (by decide) ?_
        obtain ⟨rfl, rfl⟩ := zs2 hm
        exact z_iret X hI d_Home_goThrough_52
    · replace hm := zif_t hc17 hm
      refine lv_bipush (v := (-5 : Int32)) hx hb d_Home_goThrough_20 (by decide) ?_
      obtain ⟨rfl, rfl⟩ := zs2 hm
      exact z_iret X hI d_Home_goThrough_22
  · replace hm := zif_t hc5 hm
    refine lv_iconst (v := (-1 : Int32)) hx hb d_Home_goThrough_8 (by decide) ?_
    obtain ⟨rfl, rfl⟩ := zs2 hm
    exact z_iret X hI d_Home_goThrough_9
set_option maxHeartbeats 4000000 in
set_option maxRecDepth 100000 in
theorem c_Home_goThrough (l : Launch) (G : zG) (K : Nat) (a0 : Nat) (x1 : Int32) (h : zH) (r : Int32) (h' : zH) (hm : m_Home_goThrough a0 x1 h = some (r, h')) : zMi l G K y_Home_goThrough prog_1_method_34_code 2 6 [.ref (G.1 a0), .int x1] h r h' := zMet (by decide +kernel) (Nat.le_of_ble_eq_true rfl) (fun p e s m below meth c ls X hI hl => r_Home_goThrough_0 X a0 x1 h hm hI hl)
-- walk of AllHome$Orders.size
theorem d_Orders_size_0 : decode prog_4_method_4_code 0 = .ok (.aload_n 0, 1) := by decide +kernel
theorem d_Orders_size_1 : decode prog_4_method_4_code 1 = .ok (.getfield 63, 3) := by decide +kernel
theorem d_Orders_size_4 : decode prog_4_method_4_code 4 = .ok (.ireturn, 1) := by decide +kernel
set_option maxHeartbeats 4000000 in
set_option maxRecDepth 100000 in
theorem r_Orders_size_0 {p : Program} {l : Launch} {e : Env} {s : State} {m : MethodId} {args : Array Value} {below : List Frame} {meth : Method} {c : Code} {G : zG} {K : Nat} (X : zX p s m args meth c "AllHome$Orders" prog_4_method_4_code 1 (some .int) G (zA G K)) {r : Int32} (a0 : Nat) (h : zH) (hm : m_Orders_size a0 h = some r) {H : Heap} {locs : List Loc} {ls : Array Slot} (hI : zI G K s (zA G K) H locs h) (hl : lv_has ls 1 [(0, .ref (G.1 a0))]) : W p l e (zR 0) s m args below meth c H locs 0 0 (MQ below (zQi G K r h) args s 0 0 (zA G K)) (F0 m 0 ls []) := by
  obtain ⟨hx, hb, hml, hown, hts, hr, hlocks, hK, hST, hNs⟩ := id X
  unfold m_Orders_size at hm
  refine lv_aload_n hx hb d_Orders_size_0 rfl (lv_at hl 0 rfl) ?_
  obtain ⟨v1, hv, hm⟩ := zbd hm
  refine z_getI X hI F_Orders_63 hv d_Orders_size_1 ?_
  obtain rfl := zs1 hm
  exact z_iret X hI d_Orders_size_4
set_option maxHeartbeats 4000000 in
set_option maxRecDepth 100000 in
theorem c_Orders_size (l : Launch) (G : zG) (K : Nat) (a0 : Nat) (h : zH) (r : Int32) (hm : m_Orders_size a0 h = some r) : zMi l G K y_Orders_size prog_4_method_4_code 1 0 [.ref (G.1 a0)] h r h := zMet (by decide +kernel) (Nat.le_of_ble_eq_true rfl) (fun p e s m below meth c ls X hI hl => r_Orders_size_0 X a0 h hm hI hl)
-- walk of AllHome.states
theorem d_Home_states_0 : decode prog_1_method_16_code 0 = .ok (.aload_n 0, 1) := by decide +kernel
theorem d_Home_states_1 : decode prog_1_method_16_code 1 = .ok (.iload_n 1, 1) := by decide +kernel
theorem d_Home_states_2 : decode prog_1_method_16_code 2 = .ok (.invokevirtual 146, 3) := by decide +kernel
theorem d_Home_states_5 : decode prog_1_method_16_code 5 = .ok (.istore_n 2, 1) := by decide +kernel
theorem d_Home_states_6 : decode prog_1_method_16_code 6 = .ok (.iload_n 2, 1) := by decide +kernel
theorem d_Home_states_7 : decode prog_1_method_16_code 7 = .ok (.ifCond .ge 7, 3) := by decide +kernel
theorem d_Home_states_10 : decode prog_1_method_16_code 10 = .ok (.iload_n 2, 1) := by decide +kernel
theorem d_Home_states_11 : decode prog_1_method_16_code 11 = .ok (.goto 10, 3) := by decide +kernel
theorem d_Home_states_14 : decode prog_1_method_16_code 14 = .ok (.aload_n 0, 1) := by decide +kernel
theorem d_Home_states_15 : decode prog_1_method_16_code 15 = .ok (.getfield 37, 3) := by decide +kernel
theorem d_Home_states_18 : decode prog_1_method_16_code 18 = .ok (.invokevirtual 149, 3) := by decide +kernel
theorem d_Home_states_21 : decode prog_1_method_16_code 21 = .ok (.ireturn, 1) := by decide +kernel
set_option maxHeartbeats 4000000 in
set_option maxRecDepth 100000 in
theorem r_Home_states_0 {p : Program} {l : Launch} {e : Env} {s : State} {m : MethodId} {args : Array Value} {below : List Frame} {meth : Method} {c : Code} {G : zG} {K : Nat} (X : zX p s m args meth c "AllHome" prog_1_method_16_code 3 (some .int) G (zA G K)) {r : Int32} {h' : zH} (a0 : Nat) (x1 : Int32) (h : zH) (hm : m_Home_states a0 x1 h = some (r, h')) {H : Heap} {locs : List Loc} {ls : Array Slot} (hI : zI G K s (zA G K) H locs h) (hl : lv_has ls 3 [(0, .ref (G.1 a0)), (1, .int x1)]) : W p l e (zR 7) s m args below meth c H locs 0 0 (MQ below (zQi G K r h') args s 0 0 (zA G K)) (F0 m 0 ls []) := by
  obtain ⟨hx, hb, hml, hown, hts, hr, hlocks, hK, hST, hNs⟩ := id X
  unfold m_Home_states at hm
  refine lv_aload_n hx hb d_Home_states_0 rfl (lv_at hl 0 rfl) ?_
  refine lv_iload_n hx hb d_Home_states_1 rfl (lv_at hl 1 rfl) ?_
  obtain ⟨v2, h2, hv, hm⟩ := zb2_at hm
  obtain ⟨hq, hv⟩ := zcv_at hv
  refine z_ci hI (z_runV (As := [.int x1]) (rest := []) X hI hl.1 (c_Home_goThrough l G K a0 x1 h _ _ hv) C_Home_146 rfl hq (Nat.le_of_ble_eq_true rfl) ⟨Nat.le_of_ble_eq_true rfl, Nat.le_of_ble_eq_true rfl, Nat.zero_le _, Nat.zero_le _⟩ rfl d_Home_states_2) (fun H locs hI => ?_)
  refine lv_istore_n (lv' := [(2, .int v2), (0, .ref (G.1 a0)), (1, .int x1)]) hx hb d_Home_states_5 rfl hl (by decide) rfl (fun ls hl => ?_)
  refine lv_iload_n hx hb d_Home_states_6 rfl (lv_at hl 0 rfl) ?_
  refine lv_if_ge (tgt := 14) hx hb d_Home_states_7 (by decide) (fun hc7 => ?_) (fun hc7 => ?_)
  · replace hm := zif_t hc7 hm
    refine lv_aload_n hx hb d_Home_states_14 rfl (lv_at hl 1 rfl) ?_
    obtain ⟨v15, hv, hm⟩ := zbd hm
    refine z_getR X hI F_Home_37 hv d_Home_states_15 ?_
    obtain ⟨v18, hv, hm⟩ := zbd hm
    obtain ⟨hq, hv⟩ := zcv_at hv
    refine z_ci hI (z_runV (As := []) (rest := []) X hI hl.1 (c_Orders_size l G K v15 h2 _ hv) C_Home_149 rfl hq (Nat.le_of_ble_eq_true rfl) ⟨Nat.le_of_ble_eq_true rfl, Nat.le_of_ble_eq_true rfl, Nat.zero_le _, Nat.zero_le _⟩ rfl d_Home_states_18) (fun H locs hI => ?_)
    obtain ⟨rfl, rfl⟩ := zs2 hm
    exact z_iret X hI d_Home_states_21
  · replace hm := zif_f hc7 hm
    refine lv_iload_n hx hb d_Home_states_10 rfl (lv_at hl 0 rfl) ?_
    refine lv_goto (tgt := 21) hx hb d_Home_states_11 (by decide) ?_
    obtain ⟨rfl, rfl⟩ := zs2 hm
    exact z_iret X hI d_Home_states_21
set_option maxHeartbeats 4000000 in
set_option maxRecDepth 100000 in
theorem c_Home_states (l : Launch) (G : zG) (K : Nat) (a0 : Nat) (x1 : Int32) (h : zH) (r : Int32) (h' : zH) (hm : m_Home_states a0 x1 h = some (r, h')) : zMi l G K y_Home_states prog_1_method_16_code 3 7 [.ref (G.1 a0), .int x1] h r h' := zMet (by decide +kernel) (Nat.le_of_ble_eq_true rfl) (fun p e s m below meth c ls X hI hl => r_Home_states_0 X a0 x1 h hm hI hl)
-- walk of AllHome$Orders.firstSaying
theorem d_Orders_firstSaying_0 : decode prog_4_method_14_code 0 = .ok (.iconst 0, 1) := by decide +kernel
theorem d_Orders_firstSaying_1 : decode prog_4_method_14_code 1 = .ok (.istore_n 2, 1) := by decide +kernel
theorem d_Orders_firstSaying_2 : decode prog_4_method_14_code 2 = .ok (.iload_n 2, 1) := by decide +kernel
theorem d_Orders_firstSaying_3 : decode prog_4_method_14_code 3 = .ok (.aload_n 0, 1) := by decide +kernel
theorem d_Orders_firstSaying_4 : decode prog_4_method_14_code 4 = .ok (.getfield 63, 3) := by decide +kernel
theorem d_Orders_firstSaying_7 : decode prog_4_method_14_code 7 = .ok (.if_icmp .ge 37, 3) := by decide +kernel
theorem d_Orders_firstSaying_10 : decode prog_4_method_14_code 10 = .ok (.aload_n 0, 1) := by decide +kernel
theorem d_Orders_firstSaying_11 : decode prog_4_method_14_code 11 = .ok (.getfield 13, 3) := by decide +kernel
theorem d_Orders_firstSaying_14 : decode prog_4_method_14_code 14 = .ok (.iload_n 2, 1) := by decide +kernel
theorem d_Orders_firstSaying_15 : decode prog_4_method_14_code 15 = .ok (.aaload, 1) := by decide +kernel
theorem d_Orders_firstSaying_16 : decode prog_4_method_14_code 16 = .ok (.bipush 120, 2) := by decide +kernel
theorem d_Orders_firstSaying_18 : decode prog_4_method_14_code 18 = .ok (.iaload, 1) := by decide +kernel
theorem d_Orders_firstSaying_19 : decode prog_4_method_14_code 19 = .ok (.iconst 1, 1) := by decide +kernel
theorem d_Orders_firstSaying_20 : decode prog_4_method_14_code 20 = .ok (.if_icmp .ne 18, 3) := by decide +kernel
theorem d_Orders_firstSaying_23 : decode prog_4_method_14_code 23 = .ok (.aload_n 0, 1) := by decide +kernel
theorem d_Orders_firstSaying_24 : decode prog_4_method_14_code 24 = .ok (.getfield 13, 3) := by decide +kernel
theorem d_Orders_firstSaying_27 : decode prog_4_method_14_code 27 = .ok (.iload_n 2, 1) := by decide +kernel
theorem d_Orders_firstSaying_28 : decode prog_4_method_14_code 28 = .ok (.aaload, 1) := by decide +kernel
theorem d_Orders_firstSaying_29 : decode prog_4_method_14_code 29 = .ok (.invokestatic 112, 3) := by decide +kernel
theorem d_Orders_firstSaying_32 : decode prog_4_method_14_code 32 = .ok (.iload_n 1, 1) := by decide +kernel
theorem d_Orders_firstSaying_33 : decode prog_4_method_14_code 33 = .ok (.if_icmp .ne 5, 3) := by decide +kernel
theorem d_Orders_firstSaying_36 : decode prog_4_method_14_code 36 = .ok (.iload_n 2, 1) := by decide +kernel
theorem d_Orders_firstSaying_37 : decode prog_4_method_14_code 37 = .ok (.ireturn, 1) := by decide +kernel
theorem d_Orders_firstSaying_38 : decode prog_4_method_14_code 38 = .ok (.iinc 2 1, 3) := by decide +kernel
theorem d_Orders_firstSaying_41 : decode prog_4_method_14_code 41 = .ok (.goto (-39), 3) := by decide +kernel
theorem d_Orders_firstSaying_44 : decode prog_4_method_14_code 44 = .ok (.iconst (-1), 1) := by decide +kernel
theorem d_Orders_firstSaying_45 : decode prog_4_method_14_code 45 = .ok (.ireturn, 1) := by decide +kernel
set_option maxHeartbeats 4000000 in
set_option maxRecDepth 100000 in
theorem r_Orders_firstSaying_2_b {p : Program} {l : Launch} {e : Env} {s : State} {m : MethodId} {args : Array Value} {below : List Frame} {meth : Method} {c : Code} {G : zG} {K : Nat} (X : zX p s m args meth c "AllHome$Orders" prog_4_method_14_code 3 (some .int) G (zA G K)) {r : Int32} (a0 : Nat) (x1 : Int32) (h : zH) (k2 : (Int32) → Option Int32) (hk2 : ∀ (w : Int32), k2 w = some r → ∀ (H : Heap) (locs : List Loc) (ls : Array Slot), zI G K s (zA G K) H locs h → lv_has ls 3 [(0, .ref (G.1 a0)), (1, .int x1), (2, .int w)] → W p l e (zR 1) s m args below meth c H locs 0 0 (MQ below (zQi G K r h) args s 0 0 (zA G K)) (F0 m 2 ls [])) (u : Int32) (hm : g_Orders_firstSaying_2 a0 x1 h k2 u = some r) {H : Heap} {locs : List Loc} {ls : Array Slot} (hI : zI G K s (zA G K) H locs h) (hl : lv_has ls 3 [(0, .ref (G.1 a0)), (1, .int x1), (2, .int u)]) : W p l e (zR 1) s m args below meth c H locs 0 0 (MQ below (zQi G K r h) args s 0 0 (zA G K)) (F0 m 2 ls []) := by
  obtain ⟨hx, hb, hml, hown, hts, hr, hlocks, hK, hST, hNs⟩ := id X
  unfold g_Orders_firstSaying_2 at hm
  refine lv_iload_n hx hb d_Orders_firstSaying_2 rfl (lv_at hl 2 rfl) ?_
  refine lv_aload_n hx hb d_Orders_firstSaying_3 rfl (lv_at hl 0 rfl) ?_
  obtain ⟨v4, hv, hm⟩ := zbd hm
  refine z_getI X hI F_Orders_63 hv d_Orders_firstSaying_4 ?_
  refine lv_icmp_ge (tgt := 44) hx hb d_Orders_firstSaying_7 (by decide) (fun hc7 => ?_) (fun hc7 => ?_)
  · replace hm := zif_t hc7 hm
    refine lv_iconst (v := (-1 : Int32)) hx hb d_Orders_firstSaying_44 (by decide) ?_
    obtain rfl := zs1 hm
    exact z_iret X hI d_Orders_firstSaying_45
  · replace hm := zif_f hc7 hm
    refine lv_aload_n hx hb d_Orders_firstSaying_10 rfl (lv_at hl 0 rfl) ?_
    obtain ⟨v11, hv, hm⟩ := zbd hm
    refine z_getR X hI F_Orders_13 hv d_Orders_firstSaying_11 ?_
    refine lv_iload_n hx hb d_Orders_firstSaying_14 rfl (lv_at hl 2 rfl) ?_
    obtain ⟨v15, hv, hm⟩ := zbd hm
    refine z_aald X hI 5 (.array .int) rfl rfl hv d_Orders_firstSaying_15 ?_
    refine lv_bipush (v := (nI 120)) hx hb d_Orders_firstSaying_16 (by decide) ?_
    obtain ⟨v18, hv, hm⟩ := zbd hm
    refine z_iald X hI hv d_Orders_firstSaying_18 ?_
    refine lv_iconst (v := (nI 1)) hx hb d_Orders_firstSaying_19 (by decide) ?_
    refine lv_icmp_ne (tgt := 38) hx hb d_Orders_firstSaying_20 (by decide) (fun hc20 => ?_) (fun hc20 => ?_)
    · replace hm := zif_f hc20 hm
      refine lv_iinc (v := (u + (nI 1))) (lv' := [(2, .int (u + (nI 1))), (0, .ref (G.1 a0)), (1, .int x1)]) hx hb d_Orders_firstSaying_38 hl (k := 2) rfl (congrArg (fun z => u + z) (show Int32.ofInt (1) = (nI 1) by decide)) (by decide) rfl (fun ls hl => ?_)
      refine lv_goto (tgt := 2) hx hb d_Orders_firstSaying_41 (by decide) ?_
      obtain ⟨g0, e0⟩ : ∃ z, z = (u + (nI 1)) := ⟨_, rfl⟩
      rw [← e0] at hm hl
      exact hk2 g0 hm _ _ _ hI (lv_sub hl [1, 2, 0] rfl)
    · replace hm := zif_t hc20 hm
      refine lv_aload_n hx hb d_Orders_firstSaying_23 rfl (lv_at hl 0 rfl) ?_
      obtain ⟨v24, hv, hm⟩ := zbd hm
      refine z_getR X hI F_Orders_13 hv d_Orders_firstSaying_24 ?_
      refine lv_iload_n hx hb d_Orders_firstSaying_27 rfl (lv_at hl 2 rfl) ?_
      obtain ⟨v28, hv, hm⟩ := zbd hm
      refine z_aald X hI 5 (.array .int) rfl rfl hv d_Orders_firstSaying_28 ?_
      obtain ⟨v29, hv, hm⟩ := zbd hm
      refine z_ci hI (z_runN (As := [.ref (G.1 v28)]) (rest := []) X hI hl.1 (c_Home_isOver l G K v28 h _ hv) C_Orders_112 rfl (Nat.le_of_ble_eq_true rfl) ⟨Nat.le_of_ble_eq_true rfl, Nat.le_of_ble_eq_true rfl, Nat.zero_le _, Nat.zero_le _⟩ rfl d_Orders_firstSaying_29) (fun H locs hI => ?_)
      refine lv_iload_n hx hb d_Orders_firstSaying_32 rfl (lv_at hl 1 rfl) ?_
      refine lv_icmp_ne (tgt := 38) hx hb d_Orders_firstSaying_33 (by decide) (fun hc33 => ?_) (fun hc33 => ?_)
      · replace hm := zif_f hc33 hm
        refine lv_iinc (v := (u + (nI 1))) (lv' := [(2, .int (u + (nI 1))), (0, .ref (G.1 a0)), (1, .int x1)]) hx hb d_Orders_firstSaying_38 hl (k := 2) rfl (congrArg (fun z => u + z) (show Int32.ofInt (1) = (nI 1) by decide)) (by decide) rfl (fun ls hl => ?_)
        refine lv_goto (tgt := 2) hx hb d_Orders_firstSaying_41 (by decide) ?_
        obtain ⟨g0, e0⟩ : ∃ z, z = (u + (nI 1)) := ⟨_, rfl⟩
        rw [← e0] at hm hl
        exact hk2 g0 hm _ _ _ hI (lv_sub hl [1, 2, 0] rfl)
      · replace hm := zif_t hc33 hm
        refine lv_iload_n hx hb d_Orders_firstSaying_36 rfl (lv_at hl 2 rfl) ?_
        obtain rfl := zs1 hm
        exact z_iret X hI d_Orders_firstSaying_37
theorem r_Orders_firstSaying_2 {p : Program} {l : Launch} {e : Env} {s : State} {m : MethodId} {args : Array Value} {below : List Frame} {meth : Method} {c : Code} {G : zG} {K : Nat} (X : zX p s m args meth c "AllHome$Orders" prog_4_method_14_code 3 (some .int) G (zA G K)) {r : Int32} (a0 : Nat) (x1 : Int32) (h : zH) : ∀ (n : Nat) (w : Int32), zloop (g_Orders_firstSaying_2 a0 x1 h) n w = some r → ∀ (H : Heap) (locs : List Loc) (ls : Array Slot), zI G K s (zA G K) H locs h → lv_has ls 3 [(0, .ref (G.1 a0)), (1, .int x1), (2, .int w)] → W p l e (zR 1) s m args below meth c H locs 0 0 (MQ below (zQi G K r h) args s 0 0 (zA G K)) (F0 m 2 ls []) := by
  intro n
  induction n with
  | zero => intro w hm; cases hm
  | succ n ih => intro w hm H locs ls hI hl; exact r_Orders_firstSaying_2_b X a0 x1 h (zloop (g_Orders_firstSaying_2 a0 x1 h) n) ih w (zls hm) hI hl
set_option maxHeartbeats 4000000 in
set_option maxRecDepth 100000 in
theorem r_Orders_firstSaying_0 {p : Program} {l : Launch} {e : Env} {s : State} {m : MethodId} {args : Array Value} {below : List Frame} {meth : Method} {c : Code} {G : zG} {K : Nat} (X : zX p s m args meth c "AllHome$Orders" prog_4_method_14_code 3 (some .int) G (zA G K)) {r : Int32} (a0 : Nat) (x1 : Int32) (h : zH) (hm : m_Orders_firstSaying a0 x1 h = some r) {H : Heap} {locs : List Loc} {ls : Array Slot} (hI : zI G K s (zA G K) H locs h) (hl : lv_has ls 3 [(0, .ref (G.1 a0)), (1, .int x1)]) : W p l e (zR 1) s m args below meth c H locs 0 0 (MQ below (zQi G K r h) args s 0 0 (zA G K)) (F0 m 0 ls []) := by
  obtain ⟨hx, hb, hml, hown, hts, hr, hlocks, hK, hST, hNs⟩ := id X
  unfold m_Orders_firstSaying at hm
  refine lv_iconst (v := (nI 0)) hx hb d_Orders_firstSaying_0 (by decide) ?_
  refine lv_istore_n (lv' := [(2, .int (nI 0)), (0, .ref (G.1 a0)), (1, .int x1)]) hx hb d_Orders_firstSaying_1 rfl hl (by decide) rfl (fun ls hl => ?_)
  exact r_Orders_firstSaying_2 X a0 x1 h zN (nI 0) hm _ _ _ hI (lv_sub hl [1, 2, 0] rfl)
set_option maxHeartbeats 4000000 in
set_option maxRecDepth 100000 in
theorem c_Orders_firstSaying (l : Launch) (G : zG) (K : Nat) (a0 : Nat) (x1 : Int32) (h : zH) (r : Int32) (hm : m_Orders_firstSaying a0 x1 h = some r) : zMi l G K y_Orders_firstSaying prog_4_method_14_code 3 1 [.ref (G.1 a0), .int x1] h r h := zMet (by decide +kernel) (Nat.le_of_ble_eq_true rfl) (fun p e s m below meth c ls X hI hl => r_Orders_firstSaying_0 X a0 x1 h hm hI hl)
-- walk of AllHome$Orders.early
theorem d_Orders_early_0 : decode prog_4_method_12_code 0 = .ok (.aload_n 0, 1) := by decide +kernel
theorem d_Orders_early_1 : decode prog_4_method_12_code 1 = .ok (.iconst 0, 1) := by decide +kernel
theorem d_Orders_early_2 : decode prog_4_method_12_code 2 = .ok (.invokevirtual 108, 3) := by decide +kernel
theorem d_Orders_early_5 : decode prog_4_method_12_code 5 = .ok (.ireturn, 1) := by decide +kernel
set_option maxHeartbeats 4000000 in
set_option maxRecDepth 100000 in
theorem r_Orders_early_0 {p : Program} {l : Launch} {e : Env} {s : State} {m : MethodId} {args : Array Value} {below : List Frame} {meth : Method} {c : Code} {G : zG} {K : Nat} (X : zX p s m args meth c "AllHome$Orders" prog_4_method_12_code 1 (some .int) G (zA G K)) {r : Int32} (a0 : Nat) (h : zH) (hm : m_Orders_early a0 h = some r) {H : Heap} {locs : List Loc} {ls : Array Slot} (hI : zI G K s (zA G K) H locs h) (hl : lv_has ls 1 [(0, .ref (G.1 a0))]) : W p l e (zR 2) s m args below meth c H locs 0 0 (MQ below (zQi G K r h) args s 0 0 (zA G K)) (F0 m 0 ls []) := by
  obtain ⟨hx, hb, hml, hown, hts, hr, hlocks, hK, hST, hNs⟩ := id X
  unfold m_Orders_early at hm
  refine lv_aload_n hx hb d_Orders_early_0 rfl (lv_at hl 0 rfl) ?_
  refine lv_iconst (v := (nI 0)) hx hb d_Orders_early_1 (by decide) ?_
  obtain ⟨v2, hv, hm⟩ := zbd hm
  obtain ⟨hq, hv⟩ := zcv_at hv
  refine z_ci hI (z_runV (As := [.int (nI 0)]) (rest := []) X hI hl.1 (c_Orders_firstSaying l G K a0 (nI 0) h _ hv) C_Orders_108 rfl hq (Nat.le_of_ble_eq_true rfl) ⟨Nat.le_of_ble_eq_true rfl, Nat.le_of_ble_eq_true rfl, Nat.zero_le _, Nat.zero_le _⟩ rfl d_Orders_early_2) (fun H locs hI => ?_)
  obtain rfl := zs1 hm
  exact z_iret X hI d_Orders_early_5
set_option maxHeartbeats 4000000 in
set_option maxRecDepth 100000 in
theorem c_Orders_early (l : Launch) (G : zG) (K : Nat) (a0 : Nat) (h : zH) (r : Int32) (hm : m_Orders_early a0 h = some r) : zMi l G K y_Orders_early prog_4_method_12_code 1 2 [.ref (G.1 a0)] h r h := zMet (by decide +kernel) (Nat.le_of_ble_eq_true rfl) (fun p e s m below meth c ls X hI hl => r_Orders_early_0 X a0 h hm hI hl)
-- walk of AllHome$Orders.soon
theorem d_Orders_soon_0 : decode prog_4_method_13_code 0 = .ok (.aload_n 0, 1) := by decide +kernel
theorem d_Orders_soon_1 : decode prog_4_method_13_code 1 = .ok (.iconst 1, 1) := by decide +kernel
theorem d_Orders_soon_2 : decode prog_4_method_13_code 2 = .ok (.invokevirtual 108, 3) := by decide +kernel
theorem d_Orders_soon_5 : decode prog_4_method_13_code 5 = .ok (.ireturn, 1) := by decide +kernel
set_option maxHeartbeats 4000000 in
set_option maxRecDepth 100000 in
theorem r_Orders_soon_0 {p : Program} {l : Launch} {e : Env} {s : State} {m : MethodId} {args : Array Value} {below : List Frame} {meth : Method} {c : Code} {G : zG} {K : Nat} (X : zX p s m args meth c "AllHome$Orders" prog_4_method_13_code 1 (some .int) G (zA G K)) {r : Int32} (a0 : Nat) (h : zH) (hm : m_Orders_soon a0 h = some r) {H : Heap} {locs : List Loc} {ls : Array Slot} (hI : zI G K s (zA G K) H locs h) (hl : lv_has ls 1 [(0, .ref (G.1 a0))]) : W p l e (zR 2) s m args below meth c H locs 0 0 (MQ below (zQi G K r h) args s 0 0 (zA G K)) (F0 m 0 ls []) := by
  obtain ⟨hx, hb, hml, hown, hts, hr, hlocks, hK, hST, hNs⟩ := id X
  unfold m_Orders_soon at hm
  refine lv_aload_n hx hb d_Orders_soon_0 rfl (lv_at hl 0 rfl) ?_
  refine lv_iconst (v := (nI 1)) hx hb d_Orders_soon_1 (by decide) ?_
  obtain ⟨v2, hv, hm⟩ := zbd hm
  obtain ⟨hq, hv⟩ := zcv_at hv
  refine z_ci hI (z_runV (As := [.int (nI 1)]) (rest := []) X hI hl.1 (c_Orders_firstSaying l G K a0 (nI 1) h _ hv) C_Orders_108 rfl hq (Nat.le_of_ble_eq_true rfl) ⟨Nat.le_of_ble_eq_true rfl, Nat.le_of_ble_eq_true rfl, Nat.zero_le _, Nat.zero_le _⟩ rfl d_Orders_soon_2) (fun H locs hI => ?_)
  obtain rfl := zs1 hm
  exact z_iret X hI d_Orders_soon_5
set_option maxHeartbeats 4000000 in
set_option maxRecDepth 100000 in
theorem c_Orders_soon (l : Launch) (G : zG) (K : Nat) (a0 : Nat) (h : zH) (r : Int32) (hm : m_Orders_soon a0 h = some r) : zMi l G K y_Orders_soon prog_4_method_13_code 1 2 [.ref (G.1 a0)] h r h := zMet (by decide +kernel) (Nat.le_of_ble_eq_true rfl) (fun p e s m below meth c ls X hI hl => r_Orders_soon_0 X a0 h hm hI hl)
-- walk of AllHome$Orders.stepsTo
theorem d_Orders_stepsTo_0 : decode prog_4_method_15_code 0 = .ok (.iload_n 1, 1) := by decide +kernel
theorem d_Orders_stepsTo_1 : decode prog_4_method_15_code 1 = .ok (.ifCond .lt 20, 3) := by decide +kernel
theorem d_Orders_stepsTo_4 : decode prog_4_method_15_code 4 = .ok (.iload_n 1, 1) := by decide +kernel
theorem d_Orders_stepsTo_5 : decode prog_4_method_15_code 5 = .ok (.aload_n 0, 1) := by decide +kernel
theorem d_Orders_stepsTo_6 : decode prog_4_method_15_code 6 = .ok (.getfield 63, 3) := by decide +kernel
theorem d_Orders_stepsTo_9 : decode prog_4_method_15_code 9 = .ok (.if_icmp .ge 12, 3) := by decide +kernel
theorem d_Orders_stepsTo_12 : decode prog_4_method_15_code 12 = .ok (.aload_n 0, 1) := by decide +kernel
theorem d_Orders_stepsTo_13 : decode prog_4_method_15_code 13 = .ok (.getfield 26, 3) := by decide +kernel
theorem d_Orders_stepsTo_16 : decode prog_4_method_15_code 16 = .ok (.iload_n 1, 1) := by decide +kernel
theorem d_Orders_stepsTo_17 : decode prog_4_method_15_code 17 = .ok (.iaload, 1) := by decide +kernel
theorem d_Orders_stepsTo_18 : decode prog_4_method_15_code 18 = .ok (.goto 4, 3) := by decide +kernel
theorem d_Orders_stepsTo_21 : decode prog_4_method_15_code 21 = .ok (.iconst 0, 1) := by decide +kernel
theorem d_Orders_stepsTo_22 : decode prog_4_method_15_code 22 = .ok (.ireturn, 1) := by decide +kernel
set_option maxHeartbeats 4000000 in
set_option maxRecDepth 100000 in
theorem r_Orders_stepsTo_0 {p : Program} {l : Launch} {e : Env} {s : State} {m : MethodId} {args : Array Value} {below : List Frame} {meth : Method} {c : Code} {G : zG} {K : Nat} (X : zX p s m args meth c "AllHome$Orders" prog_4_method_15_code 2 (some .int) G (zA G K)) {r : Int32} (a0 : Nat) (x1 : Int32) (h : zH) (hm : m_Orders_stepsTo a0 x1 h = some r) {H : Heap} {locs : List Loc} {ls : Array Slot} (hI : zI G K s (zA G K) H locs h) (hl : lv_has ls 2 [(0, .ref (G.1 a0)), (1, .int x1)]) : W p l e (zR 0) s m args below meth c H locs 0 0 (MQ below (zQi G K r h) args s 0 0 (zA G K)) (F0 m 0 ls []) := by
  obtain ⟨hx, hb, hml, hown, hts, hr, hlocks, hK, hST, hNs⟩ := id X
  unfold m_Orders_stepsTo at hm
  refine lv_iload_n hx hb d_Orders_stepsTo_0 rfl (lv_at hl 1 rfl) ?_
  refine lv_if_lt (tgt := 21) hx hb d_Orders_stepsTo_1 (by decide) (fun hc1 => ?_) (fun hc1 => ?_)
  · replace hm := zif_t hc1 hm
    refine lv_iconst (v := (nI 0)) hx hb d_Orders_stepsTo_21 (by decide) ?_
    obtain rfl := zs1 hm
    exact z_iret X hI d_Orders_stepsTo_22
  · replace hm := zif_f hc1 hm
    refine lv_iload_n hx hb d_Orders_stepsTo_4 rfl (lv_at hl 1 rfl) ?_
    refine lv_aload_n hx hb d_Orders_stepsTo_5 rfl (lv_at hl 0 rfl) ?_
    obtain ⟨v6, hv, hm⟩ := zbd hm
    refine z_getI X hI F_Orders_63 hv d_Orders_stepsTo_6 ?_
    refine lv_icmp_ge (tgt := 21) hx hb d_Orders_stepsTo_9 (by decide) (fun hc9 => ?_) (fun hc9 => ?_)
    · replace hm := zif_t hc9 hm
      refine lv_iconst (v := (nI 0)) hx hb d_Orders_stepsTo_21 (by decide) ?_
      obtain rfl := zs1 hm
      exact z_iret X hI d_Orders_stepsTo_22
    · replace hm := zif_f hc9 hm
      refine lv_aload_n hx hb d_Orders_stepsTo_12 rfl (lv_at hl 0 rfl) ?_
      obtain ⟨v13, hv, hm⟩ := zbd hm
      refine z_getR X hI F_Orders_26 hv d_Orders_stepsTo_13 ?_
      refine lv_iload_n hx hb d_Orders_stepsTo_16 rfl (lv_at hl 1 rfl) ?_
      obtain ⟨v17, hv, hm⟩ := zbd hm
      refine z_iald X hI hv d_Orders_stepsTo_17 ?_
      refine lv_goto (tgt := 22) hx hb d_Orders_stepsTo_18 (by decide) ?_
      obtain rfl := zs1 hm
      exact z_iret X hI d_Orders_stepsTo_22
set_option maxHeartbeats 4000000 in
set_option maxRecDepth 100000 in
theorem c_Orders_stepsTo (l : Launch) (G : zG) (K : Nat) (a0 : Nat) (x1 : Int32) (h : zH) (r : Int32) (hm : m_Orders_stepsTo a0 x1 h = some r) : zMi l G K y_Orders_stepsTo prog_4_method_15_code 2 0 [.ref (G.1 a0), .int x1] h r h := zMet (by decide +kernel) (Nat.le_of_ble_eq_true rfl) (fun p e s m below meth c ls X hI hl => r_Orders_stepsTo_0 X a0 x1 h hm hI hl)
-- walk of AllHome$Orders.stepOnTheWayTo
theorem d_Orders_stepOnTheWayTo_0 : decode prog_4_method_16_code 0 = .ok (.iload_n 1, 1) := by decide +kernel
theorem d_Orders_stepOnTheWayTo_1 : decode prog_4_method_16_code 1 = .ok (.istore_n 3, 1) := by decide +kernel
theorem d_Orders_stepOnTheWayTo_2 : decode prog_4_method_16_code 2 = .ok (.aload_n 0, 1) := by decide +kernel
theorem d_Orders_stepOnTheWayTo_3 : decode prog_4_method_16_code 3 = .ok (.iload_n 1, 1) := by decide +kernel
theorem d_Orders_stepOnTheWayTo_4 : decode prog_4_method_16_code 4 = .ok (.invokevirtual 116, 3) := by decide +kernel
theorem d_Orders_stepOnTheWayTo_7 : decode prog_4_method_16_code 7 = .ok (.iconst 1, 1) := by decide +kernel
theorem d_Orders_stepOnTheWayTo_8 : decode prog_4_method_16_code 8 = .ok (.isub, 1) := by decide +kernel
theorem d_Orders_stepOnTheWayTo_9 : decode prog_4_method_16_code 9 = .ok (.istore 4, 2) := by decide +kernel
theorem d_Orders_stepOnTheWayTo_11 : decode prog_4_method_16_code 11 = .ok (.iload 4, 2) := by decide +kernel
theorem d_Orders_stepOnTheWayTo_13 : decode prog_4_method_16_code 13 = .ok (.iload_n 2, 1) := by decide +kernel
theorem d_Orders_stepOnTheWayTo_14 : decode prog_4_method_16_code 14 = .ok (.if_icmp .le 28, 3) := by decide +kernel
theorem d_Orders_stepOnTheWayTo_17 : decode prog_4_method_16_code 17 = .ok (.iload_n 3, 1) := by decide +kernel
theorem d_Orders_stepOnTheWayTo_18 : decode prog_4_method_16_code 18 = .ok (.ifCond .lt 24, 3) := by decide +kernel
theorem d_Orders_stepOnTheWayTo_21 : decode prog_4_method_16_code 21 = .ok (.iload_n 3, 1) := by decide +kernel
theorem d_Orders_stepOnTheWayTo_22 : decode prog_4_method_16_code 22 = .ok (.aload_n 0, 1) := by decide +kernel
theorem d_Orders_stepOnTheWayTo_23 : decode prog_4_method_16_code 23 = .ok (.getfield 63, 3) := by decide +kernel
theorem d_Orders_stepOnTheWayTo_26 : decode prog_4_method_16_code 26 = .ok (.if_icmp .ge 16, 3) := by decide +kernel
theorem d_Orders_stepOnTheWayTo_29 : decode prog_4_method_16_code 29 = .ok (.aload_n 0, 1) := by decide +kernel
theorem d_Orders_stepOnTheWayTo_30 : decode prog_4_method_16_code 30 = .ok (.getfield 20, 3) := by decide +kernel
theorem d_Orders_stepOnTheWayTo_33 : decode prog_4_method_16_code 33 = .ok (.iload_n 3, 1) := by decide +kernel
theorem d_Orders_stepOnTheWayTo_34 : decode prog_4_method_16_code 34 = .ok (.iaload, 1) := by decide +kernel
theorem d_Orders_stepOnTheWayTo_35 : decode prog_4_method_16_code 35 = .ok (.istore_n 3, 1) := by decide +kernel
theorem d_Orders_stepOnTheWayTo_36 : decode prog_4_method_16_code 36 = .ok (.iinc 4 (-1), 3) := by decide +kernel
theorem d_Orders_stepOnTheWayTo_39 : decode prog_4_method_16_code 39 = .ok (.goto (-28), 3) := by decide +kernel
theorem d_Orders_stepOnTheWayTo_42 : decode prog_4_method_16_code 42 = .ok (.iload_n 3, 1) := by decide +kernel
theorem d_Orders_stepOnTheWayTo_43 : decode prog_4_method_16_code 43 = .ok (.ifCond .lt 20, 3) := by decide +kernel
theorem d_Orders_stepOnTheWayTo_46 : decode prog_4_method_16_code 46 = .ok (.iload_n 3, 1) := by decide +kernel
theorem d_Orders_stepOnTheWayTo_47 : decode prog_4_method_16_code 47 = .ok (.aload_n 0, 1) := by decide +kernel
theorem d_Orders_stepOnTheWayTo_48 : decode prog_4_method_16_code 48 = .ok (.getfield 63, 3) := by decide +kernel
theorem d_Orders_stepOnTheWayTo_51 : decode prog_4_method_16_code 51 = .ok (.if_icmp .ge 12, 3) := by decide +kernel
theorem d_Orders_stepOnTheWayTo_54 : decode prog_4_method_16_code 54 = .ok (.aload_n 0, 1) := by decide +kernel
theorem d_Orders_stepOnTheWayTo_55 : decode prog_4_method_16_code 55 = .ok (.getfield 23, 3) := by decide +kernel
theorem d_Orders_stepOnTheWayTo_58 : decode prog_4_method_16_code 58 = .ok (.iload_n 3, 1) := by decide +kernel
theorem d_Orders_stepOnTheWayTo_59 : decode prog_4_method_16_code 59 = .ok (.iaload, 1) := by decide +kernel
theorem d_Orders_stepOnTheWayTo_60 : decode prog_4_method_16_code 60 = .ok (.goto 4, 3) := by decide +kernel
theorem d_Orders_stepOnTheWayTo_63 : decode prog_4_method_16_code 63 = .ok (.iconst (-1), 1) := by decide +kernel
theorem d_Orders_stepOnTheWayTo_64 : decode prog_4_method_16_code 64 = .ok (.ireturn, 1) := by decide +kernel
set_option maxHeartbeats 4000000 in
set_option maxRecDepth 100000 in
theorem r_Orders_stepOnTheWayTo_42 {p : Program} {l : Launch} {e : Env} {s : State} {m : MethodId} {args : Array Value} {below : List Frame} {meth : Method} {c : Code} {G : zG} {K : Nat} (X : zX p s m args meth c "AllHome$Orders" prog_4_method_16_code 5 (some .int) G (zA G K)) {r : Int32} (a0 : Nat) (x3 : Int32) (h : zH) (hm : g_Orders_stepOnTheWayTo_42 a0 x3 h = some r) {H : Heap} {locs : List Loc} {ls : Array Slot} (hI : zI G K s (zA G K) H locs h) (hl : lv_has ls 5 [(0, .ref (G.1 a0)), (3, .int x3)]) : W p l e (zR 1) s m args below meth c H locs 0 0 (MQ below (zQi G K r h) args s 0 0 (zA G K)) (F0 m 42 ls []) := by
  obtain ⟨hx, hb, hml, hown, hts, hr, hlocks, hK, hST, hNs⟩ := id X
  unfold g_Orders_stepOnTheWayTo_42 at hm
  refine lv_iload_n hx hb d_Orders_stepOnTheWayTo_42 rfl (lv_at hl 1 rfl) ?_
  refine lv_if_lt (tgt := 63) hx hb d_Orders_stepOnTheWayTo_43 (by decide) (fun hc43 => ?_) (fun hc43 => ?_)
  · replace hm := zif_t hc43 hm
    refine lv_iconst (v := (-1 : Int32)) hx hb d_Orders_stepOnTheWayTo_63 (by decide) ?_
    obtain rfl := zs1 hm
    exact z_iret X hI d_Orders_stepOnTheWayTo_64
  · replace hm := zif_f hc43 hm
    refine lv_iload_n hx hb d_Orders_stepOnTheWayTo_46 rfl (lv_at hl 1 rfl) ?_
    refine lv_aload_n hx hb d_Orders_stepOnTheWayTo_47 rfl (lv_at hl 0 rfl) ?_
    obtain ⟨v48, hv, hm⟩ := zbd hm
    refine z_getI X hI F_Orders_63 hv d_Orders_stepOnTheWayTo_48 ?_
    refine lv_icmp_ge (tgt := 63) hx hb d_Orders_stepOnTheWayTo_51 (by decide) (fun hc51 => ?_) (fun hc51 => ?_)
    · replace hm := zif_t hc51 hm
      refine lv_iconst (v := (-1 : Int32)) hx hb d_Orders_stepOnTheWayTo_63 (by decide) ?_
      obtain rfl := zs1 hm
      exact z_iret X hI d_Orders_stepOnTheWayTo_64
    · replace hm := zif_f hc51 hm
      refine lv_aload_n hx hb d_Orders_stepOnTheWayTo_54 rfl (lv_at hl 0 rfl) ?_
      obtain ⟨v55, hv, hm⟩ := zbd hm
      refine z_getR X hI F_Orders_23 hv d_Orders_stepOnTheWayTo_55 ?_
      refine lv_iload_n hx hb d_Orders_stepOnTheWayTo_58 rfl (lv_at hl 1 rfl) ?_
      obtain ⟨v59, hv, hm⟩ := zbd hm
      refine z_iald X hI hv d_Orders_stepOnTheWayTo_59 ?_
      refine lv_goto (tgt := 64) hx hb d_Orders_stepOnTheWayTo_60 (by decide) ?_
      obtain rfl := zs1 hm
      exact z_iret X hI d_Orders_stepOnTheWayTo_64
set_option maxHeartbeats 4000000 in
set_option maxRecDepth 100000 in
theorem r_Orders_stepOnTheWayTo_11_b {p : Program} {l : Launch} {e : Env} {s : State} {m : MethodId} {args : Array Value} {below : List Frame} {meth : Method} {c : Code} {G : zG} {K : Nat} (X : zX p s m args meth c "AllHome$Orders" prog_4_method_16_code 5 (some .int) G (zA G K)) {r : Int32} (a0 : Nat) (x2 : Int32) (h : zH) (k11 : (Int32 × Int32) → Option Int32) (hk11 : ∀ (w : Int32 × Int32), k11 w = some r → ∀ (H : Heap) (locs : List Loc) (ls : Array Slot), zI G K s (zA G K) H locs h → lv_has ls 5 [(0, .ref (G.1 a0)), (2, .int x2), (3, .int w.1), (4, .int w.2)] → W p l e (zR 1) s m args below meth c H locs 0 0 (MQ below (zQi G K r h) args s 0 0 (zA G K)) (F0 m 11 ls [])) (u : Int32 × Int32) (hm : g_Orders_stepOnTheWayTo_11 a0 x2 h k11 u = some r) {H : Heap} {locs : List Loc} {ls : Array Slot} (hI : zI G K s (zA G K) H locs h) (hl : lv_has ls 5 [(0, .ref (G.1 a0)), (2, .int x2), (3, .int u.1), (4, .int u.2)]) : W p l e (zR 1) s m args below meth c H locs 0 0 (MQ below (zQi G K r h) args s 0 0 (zA G K)) (F0 m 11 ls []) := by
  obtain ⟨hx, hb, hml, hown, hts, hr, hlocks, hK, hST, hNs⟩ := id X
  unfold g_Orders_stepOnTheWayTo_11 at hm
  refine lv_iload hx hb d_Orders_stepOnTheWayTo_11 (lv_at hl 3 rfl) ?_
  refine lv_iload_n hx hb d_Orders_stepOnTheWayTo_13 rfl (lv_at hl 1 rfl) ?_
  refine lv_icmp_le (tgt := 42) hx hb d_Orders_stepOnTheWayTo_14 (by decide) (fun hc14 => ?_) (fun hc14 => ?_)
  · replace hm := zif_t hc14 hm
    exact r_Orders_stepOnTheWayTo_42 X a0 u.1 h hm hI (lv_sub hl [0, 2] rfl)
  · replace hm := zif_f hc14 hm
    refine lv_iload_n hx hb d_Orders_stepOnTheWayTo_17 rfl (lv_at hl 2 rfl) ?_
    refine lv_if_lt (tgt := 42) hx hb d_Orders_stepOnTheWayTo_18 (by decide) (fun hc18 => ?_) (fun hc18 => ?_)
    · replace hm := zif_t hc18 hm
      exact r_Orders_stepOnTheWayTo_42 X a0 u.1 h hm hI (lv_sub hl [0, 2] rfl)
    · replace hm := zif_f hc18 hm
      refine lv_iload_n hx hb d_Orders_stepOnTheWayTo_21 rfl (lv_at hl 2 rfl) ?_
      refine lv_aload_n hx hb d_Orders_stepOnTheWayTo_22 rfl (lv_at hl 0 rfl) ?_
      obtain ⟨v23, hv, hm⟩ := zbd hm
      refine z_getI X hI F_Orders_63 hv d_Orders_stepOnTheWayTo_23 ?_
      refine lv_icmp_ge (tgt := 42) hx hb d_Orders_stepOnTheWayTo_26 (by decide) (fun hc26 => ?_) (fun hc26 => ?_)
      · replace hm := zif_t hc26 hm
        exact r_Orders_stepOnTheWayTo_42 X a0 u.1 h hm hI (lv_sub hl [0, 2] rfl)
      · replace hm := zif_f hc26 hm
        refine lv_aload_n hx hb d_Orders_stepOnTheWayTo_29 rfl (lv_at hl 0 rfl) ?_
        obtain ⟨v30, hv, hm⟩ := zbd hm
        refine z_getR X hI F_Orders_20 hv d_Orders_stepOnTheWayTo_30 ?_
        refine lv_iload_n hx hb d_Orders_stepOnTheWayTo_33 rfl (lv_at hl 2 rfl) ?_
        obtain ⟨v34, hv, hm⟩ := zbd hm
        refine z_iald X hI hv d_Orders_stepOnTheWayTo_34 ?_
        refine lv_istore_n (lv' := [(3, .int v34), (0, .ref (G.1 a0)), (2, .int x2), (4, .int u.2)]) hx hb d_Orders_stepOnTheWayTo_35 rfl hl (by decide) rfl (fun ls hl => ?_)
        refine lv_iinc (v := (u.2 + (-1 : Int32))) (lv' := [(4, .int (u.2 + (-1 : Int32))), (3, .int v34), (0, .ref (G.1 a0)), (2, .int x2)]) hx hb d_Orders_stepOnTheWayTo_36 hl (k := 3) rfl (congrArg (fun z => u.2 + z) (show Int32.ofInt (-1) = (-1 : Int32) by decide)) (by decide) rfl (fun ls hl => ?_)
        refine lv_goto (tgt := 11) hx hb d_Orders_stepOnTheWayTo_39 (by decide) ?_
        obtain ⟨g1, e1⟩ : ∃ z, z = (u.2 + (-1 : Int32)) := ⟨_, rfl⟩
        rw [← e1] at hm hl
        exact hk11 (v34, g1) hm _ _ _ hI (lv_sub hl [2, 3, 1, 0] rfl)
theorem r_Orders_stepOnTheWayTo_11 {p : Program} {l : Launch} {e : Env} {s : State} {m : MethodId} {args : Array Value} {below : List Frame} {meth : Method} {c : Code} {G : zG} {K : Nat} (X : zX p s m args meth c "AllHome$Orders" prog_4_method_16_code 5 (some .int) G (zA G K)) {r : Int32} (a0 : Nat) (x2 : Int32) (h : zH) : ∀ (n : Nat) (w : Int32 × Int32), zloop (g_Orders_stepOnTheWayTo_11 a0 x2 h) n w = some r → ∀ (H : Heap) (locs : List Loc) (ls : Array Slot), zI G K s (zA G K) H locs h → lv_has ls 5 [(0, .ref (G.1 a0)), (2, .int x2), (3, .int w.1), (4, .int w.2)] → W p l e (zR 1) s m args below meth c H locs 0 0 (MQ below (zQi G K r h) args s 0 0 (zA G K)) (F0 m 11 ls []) := by
  intro n
  induction n with
  | zero => intro w hm; cases hm
  | succ n ih => intro w hm H locs ls hI hl; exact r_Orders_stepOnTheWayTo_11_b X a0 x2 h (zloop (g_Orders_stepOnTheWayTo_11 a0 x2 h) n) ih w (zls hm) hI hl
set_option maxHeartbeats 4000000 in
set_option maxRecDepth 100000 in
theorem r_Orders_stepOnTheWayTo_0 {p : Program} {l : Launch} {e : Env} {s : State} {m : MethodId} {args : Array Value} {below : List Frame} {meth : Method} {c : Code} {G : zG} {K : Nat} (X : zX p s m args meth c "AllHome$Orders" prog_4_method_16_code 5 (some .int) G (zA G K)) {r : Int32} (a0 : Nat) (x1 : Int32) (x2 : Int32) (h : zH) (hm : m_Orders_stepOnTheWayTo a0 x1 x2 h = some r) {H : Heap} {locs : List Loc} {ls : Array Slot} (hI : zI G K s (zA G K) H locs h) (hl : lv_has ls 5 [(0, .ref (G.1 a0)), (1, .int x1), (2, .int x2)]) : W p l e (zR 1) s m args below meth c H locs 0 0 (MQ below (zQi G K r h) args s 0 0 (zA G K)) (F0 m 0 ls []) := by
  obtain ⟨hx, hb, hml, hown, hts, hr, hlocks, hK, hST, hNs⟩ := id X
  unfold m_Orders_stepOnTheWayTo at hm
  refine lv_iload_n hx hb d_Orders_stepOnTheWayTo_0 rfl (lv_at hl 1 rfl) ?_
  refine lv_istore_n (lv' := [(3, .int x1), (0, .ref (G.1 a0)), (1, .int x1), (2, .int x2)]) hx hb d_Orders_stepOnTheWayTo_1 rfl hl (by decide) rfl (fun ls hl => ?_)
  refine lv_aload_n hx hb d_Orders_stepOnTheWayTo_2 rfl (lv_at hl 1 rfl) ?_
  refine lv_iload_n hx hb d_Orders_stepOnTheWayTo_3 rfl (lv_at hl 2 rfl) ?_
  obtain ⟨v4, hv, hm⟩ := zbd hm
  obtain ⟨hq, hv⟩ := zcv_at hv
  refine z_ci hI (z_runV (As := [.int x1]) (rest := []) X hI hl.1 (c_Orders_stepsTo l G K a0 x1 h _ hv) C_Orders_116 rfl hq (Nat.le_of_ble_eq_true rfl) ⟨Nat.le_of_ble_eq_true rfl, Nat.le_of_ble_eq_true rfl, Nat.zero_le _, Nat.zero_le _⟩ rfl d_Orders_stepOnTheWayTo_4) (fun H locs hI => ?_)
  refine lv_iconst (v := (nI 1)) hx hb d_Orders_stepOnTheWayTo_7 (by decide) ?_
  refine lv_isub hx hb d_Orders_stepOnTheWayTo_8 ?_
  refine lv_istore (lv' := [(4, .int (v4 - (nI 1))), (3, .int x1), (0, .ref (G.1 a0)), (1, .int x1), (2, .int x2)]) hx hb d_Orders_stepOnTheWayTo_9 hl (by decide) rfl (fun ls hl => ?_)
  obtain ⟨g1, e1⟩ : ∃ z, z = (v4 - (nI 1)) := ⟨_, rfl⟩
  rw [← e1] at hm hl
  exact r_Orders_stepOnTheWayTo_11 X a0 x2 h zN (x1, g1) hm _ _ _ hI (lv_sub hl [2, 4, 1, 0] rfl)
set_option maxHeartbeats 4000000 in
set_option maxRecDepth 100000 in
theorem c_Orders_stepOnTheWayTo (l : Launch) (G : zG) (K : Nat) (a0 : Nat) (x1 : Int32) (x2 : Int32) (h : zH) (r : Int32) (hm : m_Orders_stepOnTheWayTo a0 x1 x2 h = some r) : zMi l G K y_Orders_stepOnTheWayTo prog_4_method_16_code 5 1 [.ref (G.1 a0), .int x1, .int x2] h r h := zMet (by decide +kernel) (Nat.le_of_ble_eq_true rfl) (fun p e s m below meth c ls X hI hl => r_Orders_stepOnTheWayTo_0 X a0 x1 x2 h hm hI hl)
-- walk of AllHome.least
theorem d_Home_least_0 : decode prog_1_method_17_code 0 = .ok (.iload_n 2, 1) := by decide +kernel
theorem d_Home_least_1 : decode prog_1_method_17_code 1 = .ok (.ifCond .lt 13, 3) := by decide +kernel
theorem d_Home_least_4 : decode prog_1_method_17_code 4 = .ok (.iload_n 2, 1) := by decide +kernel
theorem d_Home_least_5 : decode prog_1_method_17_code 5 = .ok (.iconst 1, 1) := by decide +kernel
theorem d_Home_least_6 : decode prog_1_method_17_code 6 = .ok (.if_icmp .gt 8, 3) := by decide +kernel
theorem d_Home_least_9 : decode prog_1_method_17_code 9 = .ok (.iload_n 3, 1) := by decide +kernel
theorem d_Home_least_10 : decode prog_1_method_17_code 10 = .ok (.iconst (-1), 1) := by decide +kernel
theorem d_Home_least_11 : decode prog_1_method_17_code 11 = .ok (.if_icmp .ge 5, 3) := by decide +kernel
theorem d_Home_least_14 : decode prog_1_method_17_code 14 = .ok (.iconst (-1), 1) := by decide +kernel
theorem d_Home_least_15 : decode prog_1_method_17_code 15 = .ok (.ireturn, 1) := by decide +kernel
theorem d_Home_least_16 : decode prog_1_method_17_code 16 = .ok (.aload_n 0, 1) := by decide +kernel
theorem d_Home_least_17 : decode prog_1_method_17_code 17 = .ok (.iload_n 1, 1) := by decide +kernel
theorem d_Home_least_18 : decode prog_1_method_17_code 18 = .ok (.invokevirtual 146, 3) := by decide +kernel
theorem d_Home_least_21 : decode prog_1_method_17_code 21 = .ok (.istore 4, 2) := by decide +kernel
theorem d_Home_least_23 : decode prog_1_method_17_code 23 = .ok (.iload 4, 2) := by decide +kernel
theorem d_Home_least_25 : decode prog_1_method_17_code 25 = .ok (.ifCond .ge 6, 3) := by decide +kernel
theorem d_Home_least_28 : decode prog_1_method_17_code 28 = .ok (.iload 4, 2) := by decide +kernel
theorem d_Home_least_30 : decode prog_1_method_17_code 30 = .ok (.ireturn, 1) := by decide +kernel
theorem d_Home_least_31 : decode prog_1_method_17_code 31 = .ok (.iload_n 2, 1) := by decide +kernel
theorem d_Home_least_32 : decode prog_1_method_17_code 32 = .ok (.ifCond .ne 13, 3) := by decide +kernel
theorem d_Home_least_35 : decode prog_1_method_17_code 35 = .ok (.aload_n 0, 1) := by decide +kernel
theorem d_Home_least_36 : decode prog_1_method_17_code 36 = .ok (.getfield 37, 3) := by decide +kernel
theorem d_Home_least_39 : decode prog_1_method_17_code 39 = .ok (.invokevirtual 150, 3) := by decide +kernel
theorem d_Home_least_42 : decode prog_1_method_17_code 42 = .ok (.goto 10, 3) := by decide +kernel
theorem d_Home_least_45 : decode prog_1_method_17_code 45 = .ok (.aload_n 0, 1) := by decide +kernel
theorem d_Home_least_46 : decode prog_1_method_17_code 46 = .ok (.getfield 37, 3) := by decide +kernel
theorem d_Home_least_49 : decode prog_1_method_17_code 49 = .ok (.invokevirtual 153, 3) := by decide +kernel
theorem d_Home_least_52 : decode prog_1_method_17_code 52 = .ok (.istore 5, 2) := by decide +kernel
theorem d_Home_least_54 : decode prog_1_method_17_code 54 = .ok (.iload 5, 2) := by decide +kernel
theorem d_Home_least_56 : decode prog_1_method_17_code 56 = .ok (.iconst (-1), 1) := by decide +kernel
theorem d_Home_least_57 : decode prog_1_method_17_code 57 = .ok (.if_icmp .ne 6, 3) := by decide +kernel
theorem d_Home_least_60 : decode prog_1_method_17_code 60 = .ok (.bipush (-2), 2) := by decide +kernel
theorem d_Home_least_62 : decode prog_1_method_17_code 62 = .ok (.ireturn, 1) := by decide +kernel
theorem d_Home_least_63 : decode prog_1_method_17_code 63 = .ok (.aload_n 0, 1) := by decide +kernel
theorem d_Home_least_64 : decode prog_1_method_17_code 64 = .ok (.getfield 37, 3) := by decide +kernel
theorem d_Home_least_67 : decode prog_1_method_17_code 67 = .ok (.iload 5, 2) := by decide +kernel
theorem d_Home_least_69 : decode prog_1_method_17_code 69 = .ok (.invokevirtual 156, 3) := by decide +kernel
theorem d_Home_least_72 : decode prog_1_method_17_code 72 = .ok (.istore 6, 2) := by decide +kernel
theorem d_Home_least_74 : decode prog_1_method_17_code 74 = .ok (.iload_n 3, 1) := by decide +kernel
theorem d_Home_least_75 : decode prog_1_method_17_code 75 = .ok (.iconst (-1), 1) := by decide +kernel
theorem d_Home_least_76 : decode prog_1_method_17_code 76 = .ok (.if_icmp .ne 6, 3) := by decide +kernel
theorem d_Home_least_79 : decode prog_1_method_17_code 79 = .ok (.iload 6, 2) := by decide +kernel
theorem d_Home_least_81 : decode prog_1_method_17_code 81 = .ok (.ireturn, 1) := by decide +kernel
theorem d_Home_least_82 : decode prog_1_method_17_code 82 = .ok (.iload_n 3, 1) := by decide +kernel
theorem d_Home_least_83 : decode prog_1_method_17_code 83 = .ok (.iload 6, 2) := by decide +kernel
theorem d_Home_least_85 : decode prog_1_method_17_code 85 = .ok (.if_icmp .ge 16, 3) := by decide +kernel
theorem d_Home_least_88 : decode prog_1_method_17_code 88 = .ok (.aload_n 0, 1) := by decide +kernel
theorem d_Home_least_89 : decode prog_1_method_17_code 89 = .ok (.getfield 37, 3) := by decide +kernel
theorem d_Home_least_92 : decode prog_1_method_17_code 92 = .ok (.iload 5, 2) := by decide +kernel
theorem d_Home_least_94 : decode prog_1_method_17_code 94 = .ok (.iload_n 3, 1) := by decide +kernel
theorem d_Home_least_95 : decode prog_1_method_17_code 95 = .ok (.invokevirtual 159, 3) := by decide +kernel
theorem d_Home_least_98 : decode prog_1_method_17_code 98 = .ok (.goto 4, 3) := by decide +kernel
theorem d_Home_least_101 : decode prog_1_method_17_code 101 = .ok (.iconst (-1), 1) := by decide +kernel
theorem d_Home_least_102 : decode prog_1_method_17_code 102 = .ok (.ireturn, 1) := by decide +kernel
set_option maxHeartbeats 4000000 in
set_option maxRecDepth 100000 in
theorem r_Home_least_52 {p : Program} {l : Launch} {e : Env} {s : State} {m : MethodId} {args : Array Value} {below : List Frame} {meth : Method} {c : Code} {G : zG} {K : Nat} (X : zX p s m args meth c "AllHome" prog_1_method_17_code 7 (some .int) G (zA G K)) {r : Int32} {h' : zH} (a0 : Nat) (x3 : Int32) (y0 : Int32) (h : zH) (hm : g_Home_least_52 a0 x3 y0 h = some (r, h')) {H : Heap} {locs : List Loc} {ls : Array Slot} (hI : zI G K s (zA G K) H locs h) (hl : lv_has ls 7 [(0, .ref (G.1 a0)), (3, .int x3)]) : W p l e (zR 7) s m args below meth c H locs 0 0 (MQ below (zQi G K r h') args s 0 0 (zA G K)) (F0 m 52 ls [.int y0]) := by
  obtain ⟨hx, hb, hml, hown, hts, hr, hlocks, hK, hST, hNs⟩ := id X
  unfold g_Home_least_52 at hm
  refine lv_istore (lv' := [(5, .int y0), (0, .ref (G.1 a0)), (3, .int x3)]) hx hb d_Home_least_52 hl (by decide) rfl (fun ls hl => ?_)
  refine lv_iload hx hb d_Home_least_54 (lv_at hl 0 rfl) ?_
  refine lv_iconst (v := (-1 : Int32)) hx hb d_Home_least_56 (by decide) ?_
  refine lv_icmp_ne (tgt := 63) hx hb d_Home_least_57 (by decide) (fun hc57 => ?_) (fun hc57 => ?_)
  · replace hm := zif_f hc57 hm
    refine lv_aload_n hx hb d_Home_least_63 rfl (lv_at hl 1 rfl) ?_
    obtain ⟨v64, hv, hm⟩ := zbd hm
    refine z_getR X hI F_Home_37 hv d_Home_least_64 ?_
    refine lv_iload hx hb d_Home_least_67 (lv_at hl 0 rfl) ?_
    obtain ⟨v69, hv, hm⟩ := zbd hm
    obtain ⟨hq, hv⟩ := zcv_at hv
    refine z_ci hI (z_runV (As := [.int y0]) (rest := []) X hI hl.1 (c_Orders_stepsTo l G K v64 y0 h _ hv) C_Home_156 rfl hq (Nat.le_of_ble_eq_true rfl) ⟨Nat.le_of_ble_eq_true rfl, Nat.le_of_ble_eq_true rfl, Nat.zero_le _, Nat.zero_le _⟩ rfl d_Home_least_69) (fun H locs hI => ?_)
    refine lv_istore (lv' := [(6, .int v69), (5, .int y0), (0, .ref (G.1 a0)), (3, .int x3)]) hx hb d_Home_least_72 hl (by decide) rfl (fun ls hl => ?_)
    refine lv_iload_n hx hb d_Home_least_74 rfl (lv_at hl 3 rfl) ?_
    refine lv_iconst (v := (-1 : Int32)) hx hb d_Home_least_75 (by decide) ?_
    refine lv_icmp_ne (tgt := 82) hx hb d_Home_least_76 (by decide) (fun hc76 => ?_) (fun hc76 => ?_)
    · replace hm := zif_f hc76 hm
      refine lv_iload_n hx hb d_Home_least_82 rfl (lv_at hl 3 rfl) ?_
      refine lv_iload hx hb d_Home_least_83 (lv_at hl 0 rfl) ?_
      refine lv_icmp_ge (tgt := 101) hx hb d_Home_least_85 (by decide) (fun hc85 => ?_) (fun hc85 => ?_)
      · replace hm := zif_t hc85 hm
        refine lv_iconst (v := (-1 : Int32)) hx hb d_Home_least_101 (by decide) ?_
        obtain ⟨rfl, rfl⟩ := zs2 hm
        exact z_iret X hI d_Home_least_102
      · replace hm := zif_f hc85 hm
        refine lv_aload_n hx hb d_Home_least_88 rfl (lv_at hl 2 rfl) ?_
        obtain ⟨v89, hv, hm⟩ := zbd hm
        refine z_getR X hI F_Home_37 hv d_Home_least_89 ?_
        refine lv_iload hx hb d_Home_least_92 (lv_at hl 1 rfl) ?_
        refine lv_iload_n hx hb d_Home_least_94 rfl (lv_at hl 3 rfl) ?_
        obtain ⟨v95, hv, hm⟩ := zbd hm
        obtain ⟨hq, hv⟩ := zcv_at hv
        refine z_ci hI (z_runV (As := [.int y0, .int x3]) (rest := []) X hI hl.1 (c_Orders_stepOnTheWayTo l G K v89 y0 x3 h _ hv) C_Home_159 rfl hq (Nat.le_of_ble_eq_true rfl) ⟨Nat.le_of_ble_eq_true rfl, Nat.le_of_ble_eq_true rfl, Nat.zero_le _, Nat.zero_le _⟩ rfl d_Home_least_95) (fun H locs hI => ?_)
        refine lv_goto (tgt := 102) hx hb d_Home_least_98 (by decide) ?_
        obtain ⟨rfl, rfl⟩ := zs2 hm
        exact z_iret X hI d_Home_least_102
    · replace hm := zif_t hc76 hm
      refine lv_iload hx hb d_Home_least_79 (lv_at hl 0 rfl) ?_
      obtain ⟨rfl, rfl⟩ := zs2 hm
      exact z_iret X hI d_Home_least_81
  · replace hm := zif_t hc57 hm
    refine lv_bipush (v := (-2 : Int32)) hx hb d_Home_least_60 (by decide) ?_
    obtain ⟨rfl, rfl⟩ := zs2 hm
    exact z_iret X hI d_Home_least_62
set_option maxHeartbeats 4000000 in
set_option maxRecDepth 100000 in
theorem r_Home_least_0 {p : Program} {l : Launch} {e : Env} {s : State} {m : MethodId} {args : Array Value} {below : List Frame} {meth : Method} {c : Code} {G : zG} {K : Nat} (X : zX p s m args meth c "AllHome" prog_1_method_17_code 7 (some .int) G (zA G K)) {r : Int32} {h' : zH} (a0 : Nat) (x1 : Int32) (x2 : Int32) (x3 : Int32) (h : zH) (hm : m_Home_least a0 x1 x2 x3 h = some (r, h')) {H : Heap} {locs : List Loc} {ls : Array Slot} (hI : zI G K s (zA G K) H locs h) (hl : lv_has ls 7 [(0, .ref (G.1 a0)), (1, .int x1), (2, .int x2), (3, .int x3)]) : W p l e (zR 7) s m args below meth c H locs 0 0 (MQ below (zQi G K r h') args s 0 0 (zA G K)) (F0 m 0 ls []) := by
  obtain ⟨hx, hb, hml, hown, hts, hr, hlocks, hK, hST, hNs⟩ := id X
  unfold m_Home_least at hm
  refine lv_iload_n hx hb d_Home_least_0 rfl (lv_at hl 2 rfl) ?_
  refine lv_if_lt (tgt := 14) hx hb d_Home_least_1 (by decide) (fun hc1 => ?_) (fun hc1 => ?_)
  · replace hm := zif_t hc1 hm
    refine lv_iconst (v := (-1 : Int32)) hx hb d_Home_least_14 (by decide) ?_
    obtain ⟨rfl, rfl⟩ := zs2 hm
    exact z_iret X hI d_Home_least_15
  · replace hm := zif_f hc1 hm
    refine lv_iload_n hx hb d_Home_least_4 rfl (lv_at hl 2 rfl) ?_
    refine lv_iconst (v := (nI 1)) hx hb d_Home_least_5 (by decide) ?_
    refine lv_icmp_gt (tgt := 14) hx hb d_Home_least_6 (by decide) (fun hc6 => ?_) (fun hc6 => ?_)
    · replace hm := zif_t hc6 hm
      refine lv_iconst (v := (-1 : Int32)) hx hb d_Home_least_14 (by decide) ?_
      obtain ⟨rfl, rfl⟩ := zs2 hm
      exact z_iret X hI d_Home_least_15
    · replace hm := zif_f hc6 hm
      refine lv_iload_n hx hb d_Home_least_9 rfl (lv_at hl 3 rfl) ?_
      refine lv_iconst (v := (-1 : Int32)) hx hb d_Home_least_10 (by decide) ?_
      refine lv_icmp_ge (tgt := 16) hx hb d_Home_least_11 (by decide) (fun hc11 => ?_) (fun hc11 => ?_)
      · replace hm := zif_t hc11 hm
        refine lv_aload_n hx hb d_Home_least_16 rfl (lv_at hl 0 rfl) ?_
        refine lv_iload_n hx hb d_Home_least_17 rfl (lv_at hl 1 rfl) ?_
        obtain ⟨v18, h18, hv, hm⟩ := zb2_at hm
        obtain ⟨hq, hv⟩ := zcv_at hv
        refine z_ci hI (z_runV (As := [.int x1]) (rest := []) X hI hl.1 (c_Home_goThrough l G K a0 x1 h _ _ hv) C_Home_146 rfl hq (Nat.le_of_ble_eq_true rfl) ⟨Nat.le_of_ble_eq_true rfl, Nat.le_of_ble_eq_true rfl, Nat.zero_le _, Nat.zero_le _⟩ rfl d_Home_least_18) (fun H locs hI => ?_)
        refine lv_istore (lv' := [(4, .int v18), (0, .ref (G.1 a0)), (1, .int x1), (2, .int x2), (3, .int x3)]) hx hb d_Home_least_21 hl (by decide) rfl (fun ls hl => ?_)
        refine lv_iload hx hb d_Home_least_23 (lv_at hl 0 rfl) ?_
        refine lv_if_ge (tgt := 31) hx hb d_Home_least_25 (by decide) (fun hc25 => ?_) (fun hc25 => ?_)
        · replace hm := zif_t hc25 hm
          refine lv_iload_n hx hb d_Home_least_31 rfl (lv_at hl 3 rfl) ?_
          refine lv_if_ne (tgt := 45) hx hb d_Home_least_32 (by decide) (fun hc32 => ?_) (fun hc32 => ?_)
          · replace hm := zif_f hc32 hm
            refine lv_aload_n hx hb d_Home_least_45 rfl (lv_at hl 1 rfl) ?_
            obtain ⟨v46, hv, hm⟩ := zbd hm
            refine z_getR X hI F_Home_37 hv d_Home_least_46 ?_
            obtain ⟨v49, hv, hm⟩ := zbd hm
            obtain ⟨hq, hv⟩ := zcv_at hv
            refine z_ci hI (z_runV (As := []) (rest := []) X hI hl.1 (c_Orders_soon l G K v46 h18 _ hv) C_Home_153 rfl hq (Nat.le_of_ble_eq_true rfl) ⟨Nat.le_of_ble_eq_true rfl, Nat.le_of_ble_eq_true rfl, Nat.zero_le _, Nat.zero_le _⟩ rfl d_Home_least_49) (fun H locs hI => ?_)
            exact r_Home_least_52 X a0 x3 v49 h18 hm hI (lv_sub hl [1, 4] rfl)
          · replace hm := zif_t hc32 hm
            refine lv_aload_n hx hb d_Home_least_35 rfl (lv_at hl 1 rfl) ?_
            obtain ⟨v36, hv, hm⟩ := zbd hm
            refine z_getR X hI F_Home_37 hv d_Home_least_36 ?_
            obtain ⟨v39, hv, hm⟩ := zbd hm
            obtain ⟨hq, hv⟩ := zcv_at hv
            refine z_ci hI (z_runV (As := []) (rest := []) X hI hl.1 (c_Orders_early l G K v36 h18 _ hv) C_Home_150 rfl hq (Nat.le_of_ble_eq_true rfl) ⟨Nat.le_of_ble_eq_true rfl, Nat.le_of_ble_eq_true rfl, Nat.zero_le _, Nat.zero_le _⟩ rfl d_Home_least_39) (fun H locs hI => ?_)
            refine lv_goto (tgt := 52) hx hb d_Home_least_42 (by decide) ?_
            exact r_Home_least_52 X a0 x3 v39 h18 hm hI (lv_sub hl [1, 4] rfl)
        · replace hm := zif_f hc25 hm
          refine lv_iload hx hb d_Home_least_28 (lv_at hl 0 rfl) ?_
          obtain ⟨rfl, rfl⟩ := zs2 hm
          exact z_iret X hI d_Home_least_30
      · replace hm := zif_f hc11 hm
        refine lv_iconst (v := (-1 : Int32)) hx hb d_Home_least_14 (by decide) ?_
        obtain ⟨rfl, rfl⟩ := zs2 hm
        exact z_iret X hI d_Home_least_15
set_option maxHeartbeats 4000000 in
set_option maxRecDepth 100000 in
theorem c_Home_least (l : Launch) (G : zG) (K : Nat) (a0 : Nat) (x1 : Int32) (x2 : Int32) (x3 : Int32) (h : zH) (r : Int32) (h' : zH) (hm : m_Home_least a0 x1 x2 x3 h = some (r, h')) : zMi l G K y_Home_least prog_1_method_17_code 7 7 [.ref (G.1 a0), .int x1, .int x2, .int x3] h r h' := zMet (by decide +kernel) (Nat.le_of_ble_eq_true rfl) (fun p e s m below meth c ls X hI hl => r_Home_least_0 X a0 x1 x2 x3 h hm hI hl)
-- walk of AllHome$Orders.spreadCanSay
theorem d_Orders_spreadCanSay_0 : decode prog_4_method_18_code 0 = .ok (.iconst 0, 1) := by decide +kernel
theorem d_Orders_spreadCanSay_1 : decode prog_4_method_18_code 1 = .ok (.istore_n 1, 1) := by decide +kernel
theorem d_Orders_spreadCanSay_2 : decode prog_4_method_18_code 2 = .ok (.aload_n 0, 1) := by decide +kernel
theorem d_Orders_spreadCanSay_3 : decode prog_4_method_18_code 3 = .ok (.getfield 63, 3) := by decide +kernel
theorem d_Orders_spreadCanSay_6 : decode prog_4_method_18_code 6 = .ok (.iconst 1, 1) := by decide +kernel
theorem d_Orders_spreadCanSay_7 : decode prog_4_method_18_code 7 = .ok (.isub, 1) := by decide +kernel
theorem d_Orders_spreadCanSay_8 : decode prog_4_method_18_code 8 = .ok (.istore_n 2, 1) := by decide +kernel
theorem d_Orders_spreadCanSay_9 : decode prog_4_method_18_code 9 = .ok (.iload_n 2, 1) := by decide +kernel
theorem d_Orders_spreadCanSay_10 : decode prog_4_method_18_code 10 = .ok (.ifCond .lt 85, 3) := by decide +kernel
theorem d_Orders_spreadCanSay_13 : decode prog_4_method_18_code 13 = .ok (.iconst 0, 1) := by decide +kernel
theorem d_Orders_spreadCanSay_14 : decode prog_4_method_18_code 14 = .ok (.istore_n 3, 1) := by decide +kernel
theorem d_Orders_spreadCanSay_15 : decode prog_4_method_18_code 15 = .ok (.iload_n 3, 1) := by decide +kernel
theorem d_Orders_spreadCanSay_16 : decode prog_4_method_18_code 16 = .ok (.aload_n 0, 1) := by decide +kernel
theorem d_Orders_spreadCanSay_17 : decode prog_4_method_18_code 17 = .ok (.getfield 32, 3) := by decide +kernel
theorem d_Orders_spreadCanSay_20 : decode prog_4_method_18_code 20 = .ok (.iload_n 2, 1) := by decide +kernel
theorem d_Orders_spreadCanSay_21 : decode prog_4_method_18_code 21 = .ok (.iaload, 1) := by decide +kernel
theorem d_Orders_spreadCanSay_22 : decode prog_4_method_18_code 22 = .ok (.if_icmp .ge 67, 3) := by decide +kernel
theorem d_Orders_spreadCanSay_25 : decode prog_4_method_18_code 25 = .ok (.iload_n 3, 1) := by decide +kernel
theorem d_Orders_spreadCanSay_26 : decode prog_4_method_18_code 26 = .ok (.bipush 21, 2) := by decide +kernel
theorem d_Orders_spreadCanSay_28 : decode prog_4_method_18_code 28 = .ok (.if_icmp .ge 61, 3) := by decide +kernel
theorem d_Orders_spreadCanSay_31 : decode prog_4_method_18_code 31 = .ok (.aload_n 0, 1) := by decide +kernel
theorem d_Orders_spreadCanSay_32 : decode prog_4_method_18_code 32 = .ok (.getfield 35, 3) := by decide +kernel
theorem d_Orders_spreadCanSay_35 : decode prog_4_method_18_code 35 = .ok (.iload_n 2, 1) := by decide +kernel
theorem d_Orders_spreadCanSay_36 : decode prog_4_method_18_code 36 = .ok (.baload, 1) := by decide +kernel
theorem d_Orders_spreadCanSay_37 : decode prog_4_method_18_code 37 = .ok (.ifCond .ne 52, 3) := by decide +kernel
theorem d_Orders_spreadCanSay_40 : decode prog_4_method_18_code 40 = .ok (.aload_n 0, 1) := by decide +kernel
theorem d_Orders_spreadCanSay_41 : decode prog_4_method_18_code 41 = .ok (.getfield 29, 3) := by decide +kernel
theorem d_Orders_spreadCanSay_44 : decode prog_4_method_18_code 44 = .ok (.iload_n 2, 1) := by decide +kernel
theorem d_Orders_spreadCanSay_45 : decode prog_4_method_18_code 45 = .ok (.aaload, 1) := by decide +kernel
theorem d_Orders_spreadCanSay_46 : decode prog_4_method_18_code 46 = .ok (.iload_n 3, 1) := by decide +kernel
theorem d_Orders_spreadCanSay_47 : decode prog_4_method_18_code 47 = .ok (.iaload, 1) := by decide +kernel
theorem d_Orders_spreadCanSay_48 : decode prog_4_method_18_code 48 = .ok (.istore 4, 2) := by decide +kernel
theorem d_Orders_spreadCanSay_50 : decode prog_4_method_18_code 50 = .ok (.iload 4, 2) := by decide +kernel
theorem d_Orders_spreadCanSay_52 : decode prog_4_method_18_code 52 = .ok (.ifCond .lt 31, 3) := by decide +kernel
theorem d_Orders_spreadCanSay_55 : decode prog_4_method_18_code 55 = .ok (.iload 4, 2) := by decide +kernel
theorem d_Orders_spreadCanSay_57 : decode prog_4_method_18_code 57 = .ok (.aload_n 0, 1) := by decide +kernel
theorem d_Orders_spreadCanSay_58 : decode prog_4_method_18_code 58 = .ok (.getfield 63, 3) := by decide +kernel
theorem d_Orders_spreadCanSay_61 : decode prog_4_method_18_code 61 = .ok (.if_icmp .ge 22, 3) := by decide +kernel
theorem d_Orders_spreadCanSay_64 : decode prog_4_method_18_code 64 = .ok (.aload_n 0, 1) := by decide +kernel
theorem d_Orders_spreadCanSay_65 : decode prog_4_method_18_code 65 = .ok (.getfield 35, 3) := by decide +kernel
theorem d_Orders_spreadCanSay_68 : decode prog_4_method_18_code 68 = .ok (.iload 4, 2) := by decide +kernel
theorem d_Orders_spreadCanSay_70 : decode prog_4_method_18_code 70 = .ok (.baload, 1) := by decide +kernel
theorem d_Orders_spreadCanSay_71 : decode prog_4_method_18_code 71 = .ok (.ifCond .eq 12, 3) := by decide +kernel
theorem d_Orders_spreadCanSay_74 : decode prog_4_method_18_code 74 = .ok (.aload_n 0, 1) := by decide +kernel
theorem d_Orders_spreadCanSay_75 : decode prog_4_method_18_code 75 = .ok (.getfield 35, 3) := by decide +kernel
theorem d_Orders_spreadCanSay_78 : decode prog_4_method_18_code 78 = .ok (.iload_n 2, 1) := by decide +kernel
theorem d_Orders_spreadCanSay_79 : decode prog_4_method_18_code 79 = .ok (.iconst 1, 1) := by decide +kernel
theorem d_Orders_spreadCanSay_80 : decode prog_4_method_18_code 80 = .ok (.bastore, 1) := by decide +kernel
theorem d_Orders_spreadCanSay_81 : decode prog_4_method_18_code 81 = .ok (.iconst 1, 1) := by decide +kernel
theorem d_Orders_spreadCanSay_82 : decode prog_4_method_18_code 82 = .ok (.istore_n 1, 1) := by decide +kernel
theorem d_Orders_spreadCanSay_83 : decode prog_4_method_18_code 83 = .ok (.iinc 3 1, 3) := by decide +kernel
theorem d_Orders_spreadCanSay_86 : decode prog_4_method_18_code 86 = .ok (.goto (-71), 3) := by decide +kernel
theorem d_Orders_spreadCanSay_89 : decode prog_4_method_18_code 89 = .ok (.iinc 2 (-1), 3) := by decide +kernel
theorem d_Orders_spreadCanSay_92 : decode prog_4_method_18_code 92 = .ok (.goto (-83), 3) := by decide +kernel
theorem d_Orders_spreadCanSay_95 : decode prog_4_method_18_code 95 = .ok (.iload_n 1, 1) := by decide +kernel
theorem d_Orders_spreadCanSay_96 : decode prog_4_method_18_code 96 = .ok (.ireturn, 1) := by decide +kernel
set_option maxHeartbeats 4000000 in
set_option maxRecDepth 100000 in
theorem r_Orders_spreadCanSay_15_b {p : Program} {l : Launch} {e : Env} {s : State} {m : MethodId} {args : Array Value} {below : List Frame} {meth : Method} {c : Code} {G : zG} {K : Nat} (X : zX p s m args meth c "AllHome$Orders" prog_4_method_18_code 5 (some .boolean) G (zA G K)) {r : Int32} {h' : zH} (a0 : Nat) (x2 : Int32) (k9 : (Int32 × Int32 × zH) → Option (Int32 × zH)) (hk9 : ∀ (w : Int32 × Int32 × zH), k9 w = some (r, h') → ∀ (H : Heap) (locs : List Loc) (ls : Array Slot), zI G K s (zA G K) H locs w.2.2 → lv_has ls 5 [(0, .ref (G.1 a0)), (1, .int w.1), (2, .int w.2.1)] → W p l e (zR 0) s m args below meth c H locs 0 0 (MQ below (zQi G K r h') args s 0 0 (zA G K)) (F0 m 9 ls [])) (k15 : (Int32 × Int32 × zH) → Option (Int32 × zH)) (hk15 : ∀ (w : Int32 × Int32 × zH), k15 w = some (r, h') → ∀ (H : Heap) (locs : List Loc) (ls : Array Slot), zI G K s (zA G K) H locs w.2.2 → lv_has ls 5 [(0, .ref (G.1 a0)), (1, .int w.1), (2, .int x2), (3, .int w.2.1)] → W p l e (zR 0) s m args below meth c H locs 0 0 (MQ below (zQi G K r h') args s 0 0 (zA G K)) (F0 m 15 ls [])) (u : Int32 × Int32 × zH) (hm : g_Orders_spreadCanSay_15 a0 x2 k9 k15 u = some (r, h')) {H : Heap} {locs : List Loc} {ls : Array Slot} (hI : zI G K s (zA G K) H locs u.2.2) (hl : lv_has ls 5 [(0, .ref (G.1 a0)), (1, .int u.1), (2, .int x2), (3, .int u.2.1)]) : W p l e (zR 0) s m args below meth c H locs 0 0 (MQ below (zQi G K r h') args s 0 0 (zA G K)) (F0 m 15 ls []) := by
  obtain ⟨hx, hb, hml, hown, hts, hr, hlocks, hK, hST, hNs⟩ := id X
  unfold g_Orders_spreadCanSay_15 at hm
  refine lv_iload_n hx hb d_Orders_spreadCanSay_15 rfl (lv_at hl 3 rfl) ?_
  refine lv_aload_n hx hb d_Orders_spreadCanSay_16 rfl (lv_at hl 0 rfl) ?_
  obtain ⟨v17, hv, hm⟩ := zbd hm
  refine z_getR X hI F_Orders_32 hv d_Orders_spreadCanSay_17 ?_
  refine lv_iload_n hx hb d_Orders_spreadCanSay_20 rfl (lv_at hl 2 rfl) ?_
  obtain ⟨v21, hv, hm⟩ := zbd hm
  refine z_iald X hI hv d_Orders_spreadCanSay_21 ?_
  refine lv_icmp_ge (tgt := 89) hx hb d_Orders_spreadCanSay_22 (by decide) (fun hc22 => ?_) (fun hc22 => ?_)
  · replace hm := zif_t hc22 hm
    refine lv_iinc (v := (x2 + (-1 : Int32))) (lv' := [(2, .int (x2 + (-1 : Int32))), (0, .ref (G.1 a0)), (1, .int u.1), (3, .int u.2.1)]) hx hb d_Orders_spreadCanSay_89 hl (k := 2) rfl (congrArg (fun z => x2 + z) (show Int32.ofInt (-1) = (-1 : Int32) by decide)) (by decide) rfl (fun ls hl => ?_)
    refine lv_goto (tgt := 9) hx hb d_Orders_spreadCanSay_92 (by decide) ?_
    obtain ⟨g0, e0⟩ : ∃ z, z = u.1 := ⟨_, rfl⟩
    rw [← e0] at hm hl
    obtain ⟨g1, e1⟩ : ∃ z, z = (x2 + (-1 : Int32)) := ⟨_, rfl⟩
    rw [← e1] at hm hl
    obtain ⟨g2, e2⟩ : ∃ z, z = u.2.2 := ⟨_, rfl⟩
    rw [← e2] at hm hI
    exact hk9 (g0, g1, g2) hm _ _ _ hI (lv_sub hl [1, 2, 0] rfl)
  · replace hm := zif_f hc22 hm
    refine lv_iload_n hx hb d_Orders_spreadCanSay_25 rfl (lv_at hl 3 rfl) ?_
    refine lv_bipush (v := (nI 21)) hx hb d_Orders_spreadCanSay_26 (by decide) ?_
    refine lv_icmp_ge (tgt := 89) hx hb d_Orders_spreadCanSay_28 (by decide) (fun hc28 => ?_) (fun hc28 => ?_)
    · replace hm := zif_t hc28 hm
      refine lv_iinc (v := (x2 + (-1 : Int32))) (lv' := [(2, .int (x2 + (-1 : Int32))), (0, .ref (G.1 a0)), (1, .int u.1), (3, .int u.2.1)]) hx hb d_Orders_spreadCanSay_89 hl (k := 2) rfl (congrArg (fun z => x2 + z) (show Int32.ofInt (-1) = (-1 : Int32) by decide)) (by decide) rfl (fun ls hl => ?_)
      refine lv_goto (tgt := 9) hx hb d_Orders_spreadCanSay_92 (by decide) ?_
      obtain ⟨g0, e0⟩ : ∃ z, z = u.1 := ⟨_, rfl⟩
      rw [← e0] at hm hl
      obtain ⟨g1, e1⟩ : ∃ z, z = (x2 + (-1 : Int32)) := ⟨_, rfl⟩
      rw [← e1] at hm hl
      obtain ⟨g2, e2⟩ : ∃ z, z = u.2.2 := ⟨_, rfl⟩
      rw [← e2] at hm hI
      exact hk9 (g0, g1, g2) hm _ _ _ hI (lv_sub hl [1, 2, 0] rfl)
    · replace hm := zif_f hc28 hm
      refine lv_aload_n hx hb d_Orders_spreadCanSay_31 rfl (lv_at hl 0 rfl) ?_
      obtain ⟨v32, hv, hm⟩ := zbd hm
      refine z_getR X hI F_Orders_35 hv d_Orders_spreadCanSay_32 ?_
      refine lv_iload_n hx hb d_Orders_spreadCanSay_35 rfl (lv_at hl 2 rfl) ?_
      obtain ⟨v36, hv, hm⟩ := zbd hm
      refine z_zald X hI hv d_Orders_spreadCanSay_36 ?_
      refine lv_if_ne (tgt := 89) hx hb d_Orders_spreadCanSay_37 (by decide) (fun hc37 => ?_) (fun hc37 => ?_)
      · replace hm := zif_f hc37 hm
        refine lv_iinc (v := (x2 + (-1 : Int32))) (lv' := [(2, .int (x2 + (-1 : Int32))), (0, .ref (G.1 a0)), (1, .int u.1), (3, .int u.2.1)]) hx hb d_Orders_spreadCanSay_89 hl (k := 2) rfl (congrArg (fun z => x2 + z) (show Int32.ofInt (-1) = (-1 : Int32) by decide)) (by decide) rfl (fun ls hl => ?_)
        refine lv_goto (tgt := 9) hx hb d_Orders_spreadCanSay_92 (by decide) ?_
        obtain ⟨g0, e0⟩ : ∃ z, z = u.1 := ⟨_, rfl⟩
        rw [← e0] at hm hl
        obtain ⟨g1, e1⟩ : ∃ z, z = (x2 + (-1 : Int32)) := ⟨_, rfl⟩
        rw [← e1] at hm hl
        obtain ⟨g2, e2⟩ : ∃ z, z = u.2.2 := ⟨_, rfl⟩
        rw [← e2] at hm hI
        exact hk9 (g0, g1, g2) hm _ _ _ hI (lv_sub hl [1, 2, 0] rfl)
      · replace hm := zif_t hc37 hm
        refine lv_aload_n hx hb d_Orders_spreadCanSay_40 rfl (lv_at hl 0 rfl) ?_
        obtain ⟨v41, hv, hm⟩ := zbd hm
        refine z_getR X hI F_Orders_29 hv d_Orders_spreadCanSay_41 ?_
        refine lv_iload_n hx hb d_Orders_spreadCanSay_44 rfl (lv_at hl 2 rfl) ?_
        obtain ⟨v45, hv, hm⟩ := zbd hm
        refine z_aald X hI 5 (.array .int) rfl rfl hv d_Orders_spreadCanSay_45 ?_
        refine lv_iload_n hx hb d_Orders_spreadCanSay_46 rfl (lv_at hl 3 rfl) ?_
        obtain ⟨v47, hv, hm⟩ := zbd hm
        refine z_iald X hI hv d_Orders_spreadCanSay_47 ?_
        refine lv_istore (lv' := [(4, .int v47), (0, .ref (G.1 a0)), (1, .int u.1), (2, .int x2), (3, .int u.2.1)]) hx hb d_Orders_spreadCanSay_48 hl (by decide) rfl (fun ls hl => ?_)
        refine lv_iload hx hb d_Orders_spreadCanSay_50 (lv_at hl 0 rfl) ?_
        refine lv_if_lt (tgt := 83) hx hb d_Orders_spreadCanSay_52 (by decide) (fun hc52 => ?_) (fun hc52 => ?_)
        · replace hm := zif_t hc52 hm
          refine lv_iinc (v := (u.2.1 + (nI 1))) (lv' := [(3, .int (u.2.1 + (nI 1))), (4, .int v47), (0, .ref (G.1 a0)), (1, .int u.1), (2, .int x2)]) hx hb d_Orders_spreadCanSay_83 hl (k := 4) rfl (congrArg (fun z => u.2.1 + z) (show Int32.ofInt (1) = (nI 1) by decide)) (by decide) rfl (fun ls hl => ?_)
          refine lv_goto (tgt := 15) hx hb d_Orders_spreadCanSay_86 (by decide) ?_
          obtain ⟨g0, e0⟩ : ∃ z, z = u.1 := ⟨_, rfl⟩
          rw [← e0] at hm hl
          obtain ⟨g1, e1⟩ : ∃ z, z = (u.2.1 + (nI 1)) := ⟨_, rfl⟩
          rw [← e1] at hm hl
          obtain ⟨g2, e2⟩ : ∃ z, z = u.2.2 := ⟨_, rfl⟩
          rw [← e2] at hm hI
          exact hk15 (g0, g1, g2) hm _ _ _ hI (lv_sub hl [2, 3, 4, 0] rfl)
        · replace hm := zif_f hc52 hm
          refine lv_iload hx hb d_Orders_spreadCanSay_55 (lv_at hl 0 rfl) ?_
          refine lv_aload_n hx hb d_Orders_spreadCanSay_57 rfl (lv_at hl 1 rfl) ?_
          obtain ⟨v58, hv, hm⟩ := zbd hm
          refine z_getI X hI F_Orders_63 hv d_Orders_spreadCanSay_58 ?_
          refine lv_icmp_ge (tgt := 83) hx hb d_Orders_spreadCanSay_61 (by decide) (fun hc61 => ?_) (fun hc61 => ?_)
          · replace hm := zif_t hc61 hm
            refine lv_iinc (v := (u.2.1 + (nI 1))) (lv' := [(3, .int (u.2.1 + (nI 1))), (4, .int v47), (0, .ref (G.1 a0)), (1, .int u.1), (2, .int x2)]) hx hb d_Orders_spreadCanSay_83 hl (k := 4) rfl (congrArg (fun z => u.2.1 + z) (show Int32.ofInt (1) = (nI 1) by decide)) (by decide) rfl (fun ls hl => ?_)
            refine lv_goto (tgt := 15) hx hb d_Orders_spreadCanSay_86 (by decide) ?_
            obtain ⟨g0, e0⟩ : ∃ z, z = u.1 := ⟨_, rfl⟩
            rw [← e0] at hm hl
            obtain ⟨g1, e1⟩ : ∃ z, z = (u.2.1 + (nI 1)) := ⟨_, rfl⟩
            rw [← e1] at hm hl
            obtain ⟨g2, e2⟩ : ∃ z, z = u.2.2 := ⟨_, rfl⟩
            rw [← e2] at hm hI
            exact hk15 (g0, g1, g2) hm _ _ _ hI (lv_sub hl [2, 3, 4, 0] rfl)
          · replace hm := zif_f hc61 hm
            refine lv_aload_n hx hb d_Orders_spreadCanSay_64 rfl (lv_at hl 1 rfl) ?_
            obtain ⟨v65, hv, hm⟩ := zbd hm
            refine z_getR X hI F_Orders_35 hv d_Orders_spreadCanSay_65 ?_
            refine lv_iload hx hb d_Orders_spreadCanSay_68 (lv_at hl 0 rfl) ?_
            obtain ⟨v70, hv, hm⟩ := zbd hm
            refine z_zald X hI hv d_Orders_spreadCanSay_70 ?_
            refine lv_if_eq (tgt := 83) hx hb d_Orders_spreadCanSay_71 (by decide) (fun hc71 => ?_) (fun hc71 => ?_)
            · replace hm := zif_t hc71 hm
              refine lv_iinc (v := (u.2.1 + (nI 1))) (lv' := [(3, .int (u.2.1 + (nI 1))), (4, .int v47), (0, .ref (G.1 a0)), (1, .int u.1), (2, .int x2)]) hx hb d_Orders_spreadCanSay_83 hl (k := 4) rfl (congrArg (fun z => u.2.1 + z) (show Int32.ofInt (1) = (nI 1) by decide)) (by decide) rfl (fun ls hl => ?_)
              refine lv_goto (tgt := 15) hx hb d_Orders_spreadCanSay_86 (by decide) ?_
              obtain ⟨g0, e0⟩ : ∃ z, z = u.1 := ⟨_, rfl⟩
              rw [← e0] at hm hl
              obtain ⟨g1, e1⟩ : ∃ z, z = (u.2.1 + (nI 1)) := ⟨_, rfl⟩
              rw [← e1] at hm hl
              obtain ⟨g2, e2⟩ : ∃ z, z = u.2.2 := ⟨_, rfl⟩
              rw [← e2] at hm hI
              exact hk15 (g0, g1, g2) hm _ _ _ hI (lv_sub hl [2, 3, 4, 0] rfl)
            · replace hm := zif_f hc71 hm
              refine lv_aload_n hx hb d_Orders_spreadCanSay_74 rfl (lv_at hl 1 rfl) ?_
              obtain ⟨v75, hv, hm⟩ := zbd hm
              refine z_getR X hI F_Orders_35 hv d_Orders_spreadCanSay_75 ?_
              refine lv_iload_n hx hb d_Orders_spreadCanSay_78 rfl (lv_at hl 3 rfl) ?_
              refine lv_iconst (v := (nI 1)) hx hb d_Orders_spreadCanSay_79 (by decide) ?_
              obtain ⟨h80, hv, hm⟩ := zbd hm
              refine z_zast X hI hv d_Orders_spreadCanSay_80 (fun H locs hI => ?_)
              refine lv_iconst (v := (nI 1)) hx hb d_Orders_spreadCanSay_81 (by decide) ?_
              refine lv_istore_n (lv' := [(1, .int (nI 1)), (4, .int v47), (0, .ref (G.1 a0)), (2, .int x2), (3, .int u.2.1)]) hx hb d_Orders_spreadCanSay_82 rfl hl (by decide) rfl (fun ls hl => ?_)
              refine lv_iinc (v := (u.2.1 + (nI 1))) (lv' := [(3, .int (u.2.1 + (nI 1))), (1, .int (nI 1)), (4, .int v47), (0, .ref (G.1 a0)), (2, .int x2)]) hx hb d_Orders_spreadCanSay_83 hl (k := 4) rfl (congrArg (fun z => u.2.1 + z) (show Int32.ofInt (1) = (nI 1) by decide)) (by decide) rfl (fun ls hl => ?_)
              refine lv_goto (tgt := 15) hx hb d_Orders_spreadCanSay_86 (by decide) ?_
              obtain ⟨g1, e1⟩ : ∃ z, z = (u.2.1 + (nI 1)) := ⟨_, rfl⟩
              rw [← e1] at hm hl
              exact hk15 ((nI 1), g1, h80) hm _ _ _ hI (lv_sub hl [3, 1, 4, 0] rfl)
theorem r_Orders_spreadCanSay_15 {p : Program} {l : Launch} {e : Env} {s : State} {m : MethodId} {args : Array Value} {below : List Frame} {meth : Method} {c : Code} {G : zG} {K : Nat} (X : zX p s m args meth c "AllHome$Orders" prog_4_method_18_code 5 (some .boolean) G (zA G K)) {r : Int32} {h' : zH} (a0 : Nat) (x2 : Int32) (k9 : (Int32 × Int32 × zH) → Option (Int32 × zH)) (hk9 : ∀ (w : Int32 × Int32 × zH), k9 w = some (r, h') → ∀ (H : Heap) (locs : List Loc) (ls : Array Slot), zI G K s (zA G K) H locs w.2.2 → lv_has ls 5 [(0, .ref (G.1 a0)), (1, .int w.1), (2, .int w.2.1)] → W p l e (zR 0) s m args below meth c H locs 0 0 (MQ below (zQi G K r h') args s 0 0 (zA G K)) (F0 m 9 ls [])) : ∀ (n : Nat) (w : Int32 × Int32 × zH), zloop (g_Orders_spreadCanSay_15 a0 x2 k9) n w = some (r, h') → ∀ (H : Heap) (locs : List Loc) (ls : Array Slot), zI G K s (zA G K) H locs w.2.2 → lv_has ls 5 [(0, .ref (G.1 a0)), (1, .int w.1), (2, .int x2), (3, .int w.2.1)] → W p l e (zR 0) s m args below meth c H locs 0 0 (MQ below (zQi G K r h') args s 0 0 (zA G K)) (F0 m 15 ls []) := by
  intro n
  induction n with
  | zero => intro w hm; cases hm
  | succ n ih => intro w hm H locs ls hI hl; exact r_Orders_spreadCanSay_15_b X a0 x2 k9 hk9 (zloop (g_Orders_spreadCanSay_15 a0 x2 k9) n) ih w (zls hm) hI hl
set_option maxHeartbeats 4000000 in
set_option maxRecDepth 100000 in
theorem r_Orders_spreadCanSay_9_b {p : Program} {l : Launch} {e : Env} {s : State} {m : MethodId} {args : Array Value} {below : List Frame} {meth : Method} {c : Code} {G : zG} {K : Nat} (X : zX p s m args meth c "AllHome$Orders" prog_4_method_18_code 5 (some .boolean) G (zA G K)) {r : Int32} {h' : zH} (a0 : Nat) (k9 : (Int32 × Int32 × zH) → Option (Int32 × zH)) (hk9 : ∀ (w : Int32 × Int32 × zH), k9 w = some (r, h') → ∀ (H : Heap) (locs : List Loc) (ls : Array Slot), zI G K s (zA G K) H locs w.2.2 → lv_has ls 5 [(0, .ref (G.1 a0)), (1, .int w.1), (2, .int w.2.1)] → W p l e (zR 0) s m args below meth c H locs 0 0 (MQ below (zQi G K r h') args s 0 0 (zA G K)) (F0 m 9 ls [])) (u : Int32 × Int32 × zH) (hm : g_Orders_spreadCanSay_9 a0 k9 u = some (r, h')) {H : Heap} {locs : List Loc} {ls : Array Slot} (hI : zI G K s (zA G K) H locs u.2.2) (hl : lv_has ls 5 [(0, .ref (G.1 a0)), (1, .int u.1), (2, .int u.2.1)]) : W p l e (zR 0) s m args below meth c H locs 0 0 (MQ below (zQi G K r h') args s 0 0 (zA G K)) (F0 m 9 ls []) := by
  obtain ⟨hx, hb, hml, hown, hts, hr, hlocks, hK, hST, hNs⟩ := id X
  unfold g_Orders_spreadCanSay_9 at hm
  refine lv_iload_n hx hb d_Orders_spreadCanSay_9 rfl (lv_at hl 2 rfl) ?_
  refine lv_if_lt (tgt := 95) hx hb d_Orders_spreadCanSay_10 (by decide) (fun hc10 => ?_) (fun hc10 => ?_)
  · replace hm := zif_t hc10 hm
    refine lv_iload_n hx hb d_Orders_spreadCanSay_95 rfl (lv_at hl 1 rfl) ?_
    obtain ⟨hz, hm⟩ := zbl_at hm
    obtain ⟨rfl, rfl⟩ := zs2 hm
    exact z_zret X hI hz d_Orders_spreadCanSay_96
  · replace hm := zif_f hc10 hm
    refine lv_iconst (v := (nI 0)) hx hb d_Orders_spreadCanSay_13 (by decide) ?_
    refine lv_istore_n (lv' := [(3, .int (nI 0)), (0, .ref (G.1 a0)), (1, .int u.1), (2, .int u.2.1)]) hx hb d_Orders_spreadCanSay_14 rfl hl (by decide) rfl (fun ls hl => ?_)
    obtain ⟨g0, e0⟩ : ∃ z, z = u.1 := ⟨_, rfl⟩
    rw [← e0] at hm hl
    obtain ⟨g2, e2⟩ : ∃ z, z = u.2.2 := ⟨_, rfl⟩
    rw [← e2] at hm hI
    exact r_Orders_spreadCanSay_15 X a0 u.2.1 k9 hk9 zN (g0, (nI 0), g2) hm _ _ _ hI (lv_sub hl [1, 2, 3, 0] rfl)
theorem r_Orders_spreadCanSay_9 {p : Program} {l : Launch} {e : Env} {s : State} {m : MethodId} {args : Array Value} {below : List Frame} {meth : Method} {c : Code} {G : zG} {K : Nat} (X : zX p s m args meth c "AllHome$Orders" prog_4_method_18_code 5 (some .boolean) G (zA G K)) {r : Int32} {h' : zH} (a0 : Nat) : ∀ (n : Nat) (w : Int32 × Int32 × zH), zloop (g_Orders_spreadCanSay_9 a0) n w = some (r, h') → ∀ (H : Heap) (locs : List Loc) (ls : Array Slot), zI G K s (zA G K) H locs w.2.2 → lv_has ls 5 [(0, .ref (G.1 a0)), (1, .int w.1), (2, .int w.2.1)] → W p l e (zR 0) s m args below meth c H locs 0 0 (MQ below (zQi G K r h') args s 0 0 (zA G K)) (F0 m 9 ls []) := by
  intro n
  induction n with
  | zero => intro w hm; cases hm
  | succ n ih => intro w hm H locs ls hI hl; exact r_Orders_spreadCanSay_9_b X a0 (zloop (g_Orders_spreadCanSay_9 a0) n) ih w (zls hm) hI hl
set_option maxHeartbeats 4000000 in
set_option maxRecDepth 100000 in
theorem r_Orders_spreadCanSay_0 {p : Program} {l : Launch} {e : Env} {s : State} {m : MethodId} {args : Array Value} {below : List Frame} {meth : Method} {c : Code} {G : zG} {K : Nat} (X : zX p s m args meth c "AllHome$Orders" prog_4_method_18_code 5 (some .boolean) G (zA G K)) {r : Int32} {h' : zH} (a0 : Nat) (h : zH) (hm : m_Orders_spreadCanSay a0 h = some (r, h')) {H : Heap} {locs : List Loc} {ls : Array Slot} (hI : zI G K s (zA G K) H locs h) (hl : lv_has ls 5 [(0, .ref (G.1 a0))]) : W p l e (zR 0) s m args below meth c H locs 0 0 (MQ below (zQi G K r h') args s 0 0 (zA G K)) (F0 m 0 ls []) := by
  obtain ⟨hx, hb, hml, hown, hts, hr, hlocks, hK, hST, hNs⟩ := id X
  unfold m_Orders_spreadCanSay at hm
  refine lv_iconst (v := (nI 0)) hx hb d_Orders_spreadCanSay_0 (by decide) ?_
  refine lv_istore_n (lv' := [(1, .int (nI 0)), (0, .ref (G.1 a0))]) hx hb d_Orders_spreadCanSay_1 rfl hl (by decide) rfl (fun ls hl => ?_)
  refine lv_aload_n hx hb d_Orders_spreadCanSay_2 rfl (lv_at hl 1 rfl) ?_
  obtain ⟨v3, hv, hm⟩ := zbd hm
  refine z_getI X hI F_Orders_63 hv d_Orders_spreadCanSay_3 ?_
  refine lv_iconst (v := (nI 1)) hx hb d_Orders_spreadCanSay_6 (by decide) ?_
  refine lv_isub hx hb d_Orders_spreadCanSay_7 ?_
  refine lv_istore_n (lv' := [(2, .int (v3 - (nI 1))), (1, .int (nI 0)), (0, .ref (G.1 a0))]) hx hb d_Orders_spreadCanSay_8 rfl hl (by decide) rfl (fun ls hl => ?_)
  obtain ⟨g1, e1⟩ : ∃ z, z = (v3 - (nI 1)) := ⟨_, rfl⟩
  rw [← e1] at hm hl
  exact r_Orders_spreadCanSay_9 X a0 zN ((nI 0), g1, h) hm _ _ _ hI (lv_sub hl [2, 1, 0] rfl)
set_option maxHeartbeats 4000000 in
set_option maxRecDepth 100000 in
theorem c_Orders_spreadCanSay (l : Launch) (G : zG) (K : Nat) (a0 : Nat) (h : zH) (r : Int32) (h' : zH) (hm : m_Orders_spreadCanSay a0 h = some (r, h')) : zMz l G K y_Orders_spreadCanSay prog_4_method_18_code 5 0 [.ref (G.1 a0)] h r h' := zMet (by decide +kernel) (Nat.le_of_ble_eq_true rfl) (fun p e s m below meth c ls X hI hl => r_Orders_spreadCanSay_0 X a0 h hm hI hl)
-- walk of AllHome$Orders.stuckStates
theorem d_Orders_stuckStates_0 : decode prog_4_method_17_code 0 = .ok (.iconst 0, 1) := by decide +kernel
theorem d_Orders_stuckStates_1 : decode prog_4_method_17_code 1 = .ok (.istore_n 1, 1) := by decide +kernel
theorem d_Orders_stuckStates_2 : decode prog_4_method_17_code 2 = .ok (.iload_n 1, 1) := by decide +kernel
theorem d_Orders_stuckStates_3 : decode prog_4_method_17_code 3 = .ok (.aload_n 0, 1) := by decide +kernel
theorem d_Orders_stuckStates_4 : decode prog_4_method_17_code 4 = .ok (.getfield 63, 3) := by decide +kernel
theorem d_Orders_stuckStates_7 : decode prog_4_method_17_code 7 = .ok (.if_icmp .ge 33, 3) := by decide +kernel
theorem d_Orders_stuckStates_10 : decode prog_4_method_17_code 10 = .ok (.aload_n 0, 1) := by decide +kernel
theorem d_Orders_stuckStates_11 : decode prog_4_method_17_code 11 = .ok (.getfield 35, 3) := by decide +kernel
theorem d_Orders_stuckStates_14 : decode prog_4_method_17_code 14 = .ok (.iload_n 1, 1) := by decide +kernel
theorem d_Orders_stuckStates_15 : decode prog_4_method_17_code 15 = .ok (.aload_n 0, 1) := by decide +kernel
theorem d_Orders_stuckStates_16 : decode prog_4_method_17_code 16 = .ok (.getfield 13, 3) := by decide +kernel
theorem d_Orders_stuckStates_19 : decode prog_4_method_17_code 19 = .ok (.iload_n 1, 1) := by decide +kernel
theorem d_Orders_stuckStates_20 : decode prog_4_method_17_code 20 = .ok (.aaload, 1) := by decide +kernel
theorem d_Orders_stuckStates_21 : decode prog_4_method_17_code 21 = .ok (.bipush 120, 2) := by decide +kernel
theorem d_Orders_stuckStates_23 : decode prog_4_method_17_code 23 = .ok (.iaload, 1) := by decide +kernel
theorem d_Orders_stuckStates_24 : decode prog_4_method_17_code 24 = .ok (.iconst 1, 1) := by decide +kernel
theorem d_Orders_stuckStates_25 : decode prog_4_method_17_code 25 = .ok (.if_icmp .ne 7, 3) := by decide +kernel
theorem d_Orders_stuckStates_28 : decode prog_4_method_17_code 28 = .ok (.iconst 1, 1) := by decide +kernel
theorem d_Orders_stuckStates_29 : decode prog_4_method_17_code 29 = .ok (.goto 4, 3) := by decide +kernel
theorem d_Orders_stuckStates_32 : decode prog_4_method_17_code 32 = .ok (.iconst 0, 1) := by decide +kernel
theorem d_Orders_stuckStates_33 : decode prog_4_method_17_code 33 = .ok (.bastore, 1) := by decide +kernel
theorem d_Orders_stuckStates_34 : decode prog_4_method_17_code 34 = .ok (.iinc 1 1, 3) := by decide +kernel
theorem d_Orders_stuckStates_37 : decode prog_4_method_17_code 37 = .ok (.goto (-35), 3) := by decide +kernel
theorem d_Orders_stuckStates_40 : decode prog_4_method_17_code 40 = .ok (.iconst 1, 1) := by decide +kernel
theorem d_Orders_stuckStates_41 : decode prog_4_method_17_code 41 = .ok (.istore_n 1, 1) := by decide +kernel
theorem d_Orders_stuckStates_42 : decode prog_4_method_17_code 42 = .ok (.iconst 0, 1) := by decide +kernel
theorem d_Orders_stuckStates_43 : decode prog_4_method_17_code 43 = .ok (.istore_n 2, 1) := by decide +kernel
theorem d_Orders_stuckStates_44 : decode prog_4_method_17_code 44 = .ok (.iload_n 2, 1) := by decide +kernel
theorem d_Orders_stuckStates_45 : decode prog_4_method_17_code 45 = .ok (.sipush 150, 3) := by decide +kernel
theorem d_Orders_stuckStates_48 : decode prog_4_method_17_code 48 = .ok (.if_icmp .ge 18, 3) := by decide +kernel
theorem d_Orders_stuckStates_51 : decode prog_4_method_17_code 51 = .ok (.iload_n 1, 1) := by decide +kernel
theorem d_Orders_stuckStates_52 : decode prog_4_method_17_code 52 = .ok (.ifCond .eq 14, 3) := by decide +kernel
theorem d_Orders_stuckStates_55 : decode prog_4_method_17_code 55 = .ok (.aload_n 0, 1) := by decide +kernel
theorem d_Orders_stuckStates_56 : decode prog_4_method_17_code 56 = .ok (.invokevirtual 120, 3) := by decide +kernel
theorem d_Orders_stuckStates_59 : decode prog_4_method_17_code 59 = .ok (.istore_n 1, 1) := by decide +kernel
theorem d_Orders_stuckStates_60 : decode prog_4_method_17_code 60 = .ok (.iinc 2 1, 3) := by decide +kernel
theorem d_Orders_stuckStates_63 : decode prog_4_method_17_code 63 = .ok (.goto (-19), 3) := by decide +kernel
theorem d_Orders_stuckStates_66 : decode prog_4_method_17_code 66 = .ok (.iconst 0, 1) := by decide +kernel
theorem d_Orders_stuckStates_67 : decode prog_4_method_17_code 67 = .ok (.istore_n 2, 1) := by decide +kernel
theorem d_Orders_stuckStates_68 : decode prog_4_method_17_code 68 = .ok (.iconst 0, 1) := by decide +kernel
theorem d_Orders_stuckStates_69 : decode prog_4_method_17_code 69 = .ok (.istore_n 3, 1) := by decide +kernel
theorem d_Orders_stuckStates_70 : decode prog_4_method_17_code 70 = .ok (.iload_n 3, 1) := by decide +kernel
theorem d_Orders_stuckStates_71 : decode prog_4_method_17_code 71 = .ok (.aload_n 0, 1) := by decide +kernel
theorem d_Orders_stuckStates_72 : decode prog_4_method_17_code 72 = .ok (.getfield 63, 3) := by decide +kernel
theorem d_Orders_stuckStates_75 : decode prog_4_method_17_code 75 = .ok (.if_icmp .ge 26, 3) := by decide +kernel
theorem d_Orders_stuckStates_78 : decode prog_4_method_17_code 78 = .ok (.iload_n 2, 1) := by decide +kernel
theorem d_Orders_stuckStates_79 : decode prog_4_method_17_code 79 = .ok (.aload_n 0, 1) := by decide +kernel
theorem d_Orders_stuckStates_80 : decode prog_4_method_17_code 80 = .ok (.getfield 35, 3) := by decide +kernel
theorem d_Orders_stuckStates_83 : decode prog_4_method_17_code 83 = .ok (.iload_n 3, 1) := by decide +kernel
theorem d_Orders_stuckStates_84 : decode prog_4_method_17_code 84 = .ok (.baload, 1) := by decide +kernel
theorem d_Orders_stuckStates_85 : decode prog_4_method_17_code 85 = .ok (.ifCond .eq 7, 3) := by decide +kernel
theorem d_Orders_stuckStates_88 : decode prog_4_method_17_code 88 = .ok (.iconst 0, 1) := by decide +kernel
theorem d_Orders_stuckStates_89 : decode prog_4_method_17_code 89 = .ok (.goto 4, 3) := by decide +kernel
theorem d_Orders_stuckStates_92 : decode prog_4_method_17_code 92 = .ok (.iconst 1, 1) := by decide +kernel
theorem d_Orders_stuckStates_93 : decode prog_4_method_17_code 93 = .ok (.iadd, 1) := by decide +kernel
theorem d_Orders_stuckStates_94 : decode prog_4_method_17_code 94 = .ok (.istore_n 2, 1) := by decide +kernel
theorem d_Orders_stuckStates_95 : decode prog_4_method_17_code 95 = .ok (.iinc 3 1, 3) := by decide +kernel
theorem d_Orders_stuckStates_98 : decode prog_4_method_17_code 98 = .ok (.goto (-28), 3) := by decide +kernel
theorem d_Orders_stuckStates_101 : decode prog_4_method_17_code 101 = .ok (.iload_n 2, 1) := by decide +kernel
theorem d_Orders_stuckStates_102 : decode prog_4_method_17_code 102 = .ok (.ireturn, 1) := by decide +kernel
set_option maxHeartbeats 4000000 in
set_option maxRecDepth 100000 in
theorem r_Orders_stuckStates_70_b {p : Program} {l : Launch} {e : Env} {s : State} {m : MethodId} {args : Array Value} {below : List Frame} {meth : Method} {c : Code} {G : zG} {K : Nat} (X : zX p s m args meth c "AllHome$Orders" prog_4_method_17_code 4 (some .int) G (zA G K)) {r : Int32} {h' : zH} (a0 : Nat) (h : zH) (k70 : (Int32 × Int32) → Option (Int32 × zH)) (hk70 : ∀ (w : Int32 × Int32), k70 w = some (r, h') → ∀ (H : Heap) (locs : List Loc) (ls : Array Slot), zI G K s (zA G K) H locs h → lv_has ls 4 [(0, .ref (G.1 a0)), (2, .int w.1), (3, .int w.2)] → W p l e (zR 1) s m args below meth c H locs 0 0 (MQ below (zQi G K r h') args s 0 0 (zA G K)) (F0 m 70 ls [])) (u : Int32 × Int32) (hm : g_Orders_stuckStates_70 a0 h k70 u = some (r, h')) {H : Heap} {locs : List Loc} {ls : Array Slot} (hI : zI G K s (zA G K) H locs h) (hl : lv_has ls 4 [(0, .ref (G.1 a0)), (2, .int u.1), (3, .int u.2)]) : W p l e (zR 1) s m args below meth c H locs 0 0 (MQ below (zQi G K r h') args s 0 0 (zA G K)) (F0 m 70 ls []) := by
  obtain ⟨hx, hb, hml, hown, hts, hr, hlocks, hK, hST, hNs⟩ := id X
  unfold g_Orders_stuckStates_70 at hm
  refine lv_iload_n hx hb d_Orders_stuckStates_70 rfl (lv_at hl 2 rfl) ?_
  refine lv_aload_n hx hb d_Orders_stuckStates_71 rfl (lv_at hl 0 rfl) ?_
  obtain ⟨v72, hv, hm⟩ := zbd hm
  refine z_getI X hI F_Orders_63 hv d_Orders_stuckStates_72 ?_
  refine lv_icmp_ge (tgt := 101) hx hb d_Orders_stuckStates_75 (by decide) (fun hc75 => ?_) (fun hc75 => ?_)
  · replace hm := zif_t hc75 hm
    refine lv_iload_n hx hb d_Orders_stuckStates_101 rfl (lv_at hl 1 rfl) ?_
    obtain ⟨rfl, rfl⟩ := zs2 hm
    exact z_iret X hI d_Orders_stuckStates_102
  · replace hm := zif_f hc75 hm
    refine lv_iload_n hx hb d_Orders_stuckStates_78 rfl (lv_at hl 1 rfl) ?_
    refine lv_aload_n hx hb d_Orders_stuckStates_79 rfl (lv_at hl 0 rfl) ?_
    obtain ⟨v80, hv, hm⟩ := zbd hm
    refine z_getR X hI F_Orders_35 hv d_Orders_stuckStates_80 ?_
    refine lv_iload_n hx hb d_Orders_stuckStates_83 rfl (lv_at hl 2 rfl) ?_
    obtain ⟨v84, hv, hm⟩ := zbd hm
    refine z_zald X hI hv d_Orders_stuckStates_84 ?_
    refine lv_if_eq (tgt := 92) hx hb d_Orders_stuckStates_85 (by decide) (fun hc85 => ?_) (fun hc85 => ?_)
    · replace hm := zif_t hc85 hm
      refine lv_iconst (v := (nI 1)) hx hb d_Orders_stuckStates_92 (by decide) ?_
      refine lv_iadd hx hb d_Orders_stuckStates_93 ?_
      refine lv_istore_n (lv' := [(2, .int (u.1 + (nI 1))), (0, .ref (G.1 a0)), (3, .int u.2)]) hx hb d_Orders_stuckStates_94 rfl hl (by decide) rfl (fun ls hl => ?_)
      refine lv_iinc (v := (u.2 + (nI 1))) (lv' := [(3, .int (u.2 + (nI 1))), (2, .int (u.1 + (nI 1))), (0, .ref (G.1 a0))]) hx hb d_Orders_stuckStates_95 hl (k := 2) rfl (congrArg (fun z => u.2 + z) (show Int32.ofInt (1) = (nI 1) by decide)) (by decide) rfl (fun ls hl => ?_)
      refine lv_goto (tgt := 70) hx hb d_Orders_stuckStates_98 (by decide) ?_
      obtain ⟨g0, e0⟩ : ∃ z, z = (u.1 + (nI 1)) := ⟨_, rfl⟩
      rw [← e0] at hm hl
      obtain ⟨g1, e1⟩ : ∃ z, z = (u.2 + (nI 1)) := ⟨_, rfl⟩
      rw [← e1] at hm hl
      exact hk70 (g0, g1) hm _ _ _ hI (lv_sub hl [2, 1, 0] rfl)
    · replace hm := zif_f hc85 hm
      refine lv_iconst (v := (nI 0)) hx hb d_Orders_stuckStates_88 (by decide) ?_
      refine lv_goto (tgt := 93) hx hb d_Orders_stuckStates_89 (by decide) ?_
      refine lv_iadd hx hb d_Orders_stuckStates_93 ?_
      refine lv_istore_n (lv' := [(2, .int (u.1 + (nI 0))), (0, .ref (G.1 a0)), (3, .int u.2)]) hx hb d_Orders_stuckStates_94 rfl hl (by decide) rfl (fun ls hl => ?_)
      refine lv_iinc (v := (u.2 + (nI 1))) (lv' := [(3, .int (u.2 + (nI 1))), (2, .int (u.1 + (nI 0))), (0, .ref (G.1 a0))]) hx hb d_Orders_stuckStates_95 hl (k := 2) rfl (congrArg (fun z => u.2 + z) (show Int32.ofInt (1) = (nI 1) by decide)) (by decide) rfl (fun ls hl => ?_)
      refine lv_goto (tgt := 70) hx hb d_Orders_stuckStates_98 (by decide) ?_
      obtain ⟨g0, e0⟩ : ∃ z, z = (u.1 + (nI 0)) := ⟨_, rfl⟩
      rw [← e0] at hm hl
      obtain ⟨g1, e1⟩ : ∃ z, z = (u.2 + (nI 1)) := ⟨_, rfl⟩
      rw [← e1] at hm hl
      exact hk70 (g0, g1) hm _ _ _ hI (lv_sub hl [2, 1, 0] rfl)
theorem r_Orders_stuckStates_70 {p : Program} {l : Launch} {e : Env} {s : State} {m : MethodId} {args : Array Value} {below : List Frame} {meth : Method} {c : Code} {G : zG} {K : Nat} (X : zX p s m args meth c "AllHome$Orders" prog_4_method_17_code 4 (some .int) G (zA G K)) {r : Int32} {h' : zH} (a0 : Nat) (h : zH) : ∀ (n : Nat) (w : Int32 × Int32), zloop (g_Orders_stuckStates_70 a0 h) n w = some (r, h') → ∀ (H : Heap) (locs : List Loc) (ls : Array Slot), zI G K s (zA G K) H locs h → lv_has ls 4 [(0, .ref (G.1 a0)), (2, .int w.1), (3, .int w.2)] → W p l e (zR 1) s m args below meth c H locs 0 0 (MQ below (zQi G K r h') args s 0 0 (zA G K)) (F0 m 70 ls []) := by
  intro n
  induction n with
  | zero => intro w hm; cases hm
  | succ n ih => intro w hm H locs ls hI hl; exact r_Orders_stuckStates_70_b X a0 h (zloop (g_Orders_stuckStates_70 a0 h) n) ih w (zls hm) hI hl
set_option maxHeartbeats 4000000 in
set_option maxRecDepth 100000 in
theorem r_Orders_stuckStates_44_b {p : Program} {l : Launch} {e : Env} {s : State} {m : MethodId} {args : Array Value} {below : List Frame} {meth : Method} {c : Code} {G : zG} {K : Nat} (X : zX p s m args meth c "AllHome$Orders" prog_4_method_17_code 4 (some .int) G (zA G K)) {r : Int32} {h' : zH} (a0 : Nat) (k44 : (Int32 × Int32 × zH) → Option (Int32 × zH)) (hk44 : ∀ (w : Int32 × Int32 × zH), k44 w = some (r, h') → ∀ (H : Heap) (locs : List Loc) (ls : Array Slot), zI G K s (zA G K) H locs w.2.2 → lv_has ls 4 [(0, .ref (G.1 a0)), (1, .int w.1), (2, .int w.2.1)] → W p l e (zR 1) s m args below meth c H locs 0 0 (MQ below (zQi G K r h') args s 0 0 (zA G K)) (F0 m 44 ls [])) (u : Int32 × Int32 × zH) (hm : g_Orders_stuckStates_44 a0 k44 u = some (r, h')) {H : Heap} {locs : List Loc} {ls : Array Slot} (hI : zI G K s (zA G K) H locs u.2.2) (hl : lv_has ls 4 [(0, .ref (G.1 a0)), (1, .int u.1), (2, .int u.2.1)]) : W p l e (zR 1) s m args below meth c H locs 0 0 (MQ below (zQi G K r h') args s 0 0 (zA G K)) (F0 m 44 ls []) := by
  obtain ⟨hx, hb, hml, hown, hts, hr, hlocks, hK, hST, hNs⟩ := id X
  unfold g_Orders_stuckStates_44 at hm
  refine lv_iload_n hx hb d_Orders_stuckStates_44 rfl (lv_at hl 2 rfl) ?_
  refine lv_sipush (v := (nI 150)) hx hb d_Orders_stuckStates_45 (by decide) ?_
  refine lv_icmp_ge (tgt := 66) hx hb d_Orders_stuckStates_48 (by decide) (fun hc48 => ?_) (fun hc48 => ?_)
  · replace hm := zif_t hc48 hm
    refine lv_iconst (v := (nI 0)) hx hb d_Orders_stuckStates_66 (by decide) ?_
    refine lv_istore_n (lv' := [(2, .int (nI 0)), (0, .ref (G.1 a0)), (1, .int u.1)]) hx hb d_Orders_stuckStates_67 rfl hl (by decide) rfl (fun ls hl => ?_)
    refine lv_iconst (v := (nI 0)) hx hb d_Orders_stuckStates_68 (by decide) ?_
    refine lv_istore_n (lv' := [(3, .int (nI 0)), (2, .int (nI 0)), (0, .ref (G.1 a0)), (1, .int u.1)]) hx hb d_Orders_stuckStates_69 rfl hl (by decide) rfl (fun ls hl => ?_)
    exact r_Orders_stuckStates_70 X a0 u.2.2 zN ((nI 0), (nI 0)) hm _ _ _ hI (lv_sub hl [2, 1, 0] rfl)
  · replace hm := zif_f hc48 hm
    refine lv_iload_n hx hb d_Orders_stuckStates_51 rfl (lv_at hl 1 rfl) ?_
    refine lv_if_eq (tgt := 66) hx hb d_Orders_stuckStates_52 (by decide) (fun hc52 => ?_) (fun hc52 => ?_)
    · replace hm := zif_t hc52 hm
      refine lv_iconst (v := (nI 0)) hx hb d_Orders_stuckStates_66 (by decide) ?_
      refine lv_istore_n (lv' := [(2, .int (nI 0)), (0, .ref (G.1 a0)), (1, .int u.1)]) hx hb d_Orders_stuckStates_67 rfl hl (by decide) rfl (fun ls hl => ?_)
      refine lv_iconst (v := (nI 0)) hx hb d_Orders_stuckStates_68 (by decide) ?_
      refine lv_istore_n (lv' := [(3, .int (nI 0)), (2, .int (nI 0)), (0, .ref (G.1 a0)), (1, .int u.1)]) hx hb d_Orders_stuckStates_69 rfl hl (by decide) rfl (fun ls hl => ?_)
      exact r_Orders_stuckStates_70 X a0 u.2.2 zN ((nI 0), (nI 0)) hm _ _ _ hI (lv_sub hl [2, 1, 0] rfl)
    · replace hm := zif_f hc52 hm
      refine lv_aload_n hx hb d_Orders_stuckStates_55 rfl (lv_at hl 0 rfl) ?_
      obtain ⟨v56, h56, hv, hm⟩ := zb2_at hm
      obtain ⟨hq, hv⟩ := zcv_at hv
      refine z_ci hI (z_runV (As := []) (rest := []) X hI hl.1 (c_Orders_spreadCanSay l G K a0 u.2.2 _ _ hv) C_Orders_120 rfl hq (Nat.le_of_ble_eq_true rfl) ⟨Nat.le_of_ble_eq_true rfl, Nat.le_of_ble_eq_true rfl, Nat.zero_le _, Nat.zero_le _⟩ rfl d_Orders_stuckStates_56) (fun H locs hI => ?_)
      refine lv_istore_n (lv' := [(1, .int v56), (0, .ref (G.1 a0)), (2, .int u.2.1)]) hx hb d_Orders_stuckStates_59 rfl hl (by decide) rfl (fun ls hl => ?_)
      refine lv_iinc (v := (u.2.1 + (nI 1))) (lv' := [(2, .int (u.2.1 + (nI 1))), (1, .int v56), (0, .ref (G.1 a0))]) hx hb d_Orders_stuckStates_60 hl (k := 2) rfl (congrArg (fun z => u.2.1 + z) (show Int32.ofInt (1) = (nI 1) by decide)) (by decide) rfl (fun ls hl => ?_)
      refine lv_goto (tgt := 44) hx hb d_Orders_stuckStates_63 (by decide) ?_
      obtain ⟨g1, e1⟩ : ∃ z, z = (u.2.1 + (nI 1)) := ⟨_, rfl⟩
      rw [← e1] at hm hl
      exact hk44 (v56, g1, h56) hm _ _ _ hI (lv_sub hl [2, 1, 0] rfl)
theorem r_Orders_stuckStates_44 {p : Program} {l : Launch} {e : Env} {s : State} {m : MethodId} {args : Array Value} {below : List Frame} {meth : Method} {c : Code} {G : zG} {K : Nat} (X : zX p s m args meth c "AllHome$Orders" prog_4_method_17_code 4 (some .int) G (zA G K)) {r : Int32} {h' : zH} (a0 : Nat) : ∀ (n : Nat) (w : Int32 × Int32 × zH), zloop (g_Orders_stuckStates_44 a0) n w = some (r, h') → ∀ (H : Heap) (locs : List Loc) (ls : Array Slot), zI G K s (zA G K) H locs w.2.2 → lv_has ls 4 [(0, .ref (G.1 a0)), (1, .int w.1), (2, .int w.2.1)] → W p l e (zR 1) s m args below meth c H locs 0 0 (MQ below (zQi G K r h') args s 0 0 (zA G K)) (F0 m 44 ls []) := by
  intro n
  induction n with
  | zero => intro w hm; cases hm
  | succ n ih => intro w hm H locs ls hI hl; exact r_Orders_stuckStates_44_b X a0 (zloop (g_Orders_stuckStates_44 a0) n) ih w (zls hm) hI hl
set_option maxHeartbeats 4000000 in
set_option maxRecDepth 100000 in
theorem r_Orders_stuckStates_2_b {p : Program} {l : Launch} {e : Env} {s : State} {m : MethodId} {args : Array Value} {below : List Frame} {meth : Method} {c : Code} {G : zG} {K : Nat} (X : zX p s m args meth c "AllHome$Orders" prog_4_method_17_code 4 (some .int) G (zA G K)) {r : Int32} {h' : zH} (a0 : Nat) (k2 : (Int32 × zH) → Option (Int32 × zH)) (hk2 : ∀ (w : Int32 × zH), k2 w = some (r, h') → ∀ (H : Heap) (locs : List Loc) (ls : Array Slot), zI G K s (zA G K) H locs w.2 → lv_has ls 4 [(0, .ref (G.1 a0)), (1, .int w.1)] → W p l e (zR 1) s m args below meth c H locs 0 0 (MQ below (zQi G K r h') args s 0 0 (zA G K)) (F0 m 2 ls [])) (u : Int32 × zH) (hm : g_Orders_stuckStates_2 a0 k2 u = some (r, h')) {H : Heap} {locs : List Loc} {ls : Array Slot} (hI : zI G K s (zA G K) H locs u.2) (hl : lv_has ls 4 [(0, .ref (G.1 a0)), (1, .int u.1)]) : W p l e (zR 1) s m args below meth c H locs 0 0 (MQ below (zQi G K r h') args s 0 0 (zA G K)) (F0 m 2 ls []) := by
  obtain ⟨hx, hb, hml, hown, hts, hr, hlocks, hK, hST, hNs⟩ := id X
  unfold g_Orders_stuckStates_2 at hm
  refine lv_iload_n hx hb d_Orders_stuckStates_2 rfl (lv_at hl 1 rfl) ?_
  refine lv_aload_n hx hb d_Orders_stuckStates_3 rfl (lv_at hl 0 rfl) ?_
  obtain ⟨v4, hv, hm⟩ := zbd hm
  refine z_getI X hI F_Orders_63 hv d_Orders_stuckStates_4 ?_
  refine lv_icmp_ge (tgt := 40) hx hb d_Orders_stuckStates_7 (by decide) (fun hc7 => ?_) (fun hc7 => ?_)
  · replace hm := zif_t hc7 hm
    refine lv_iconst (v := (nI 1)) hx hb d_Orders_stuckStates_40 (by decide) ?_
    refine lv_istore_n (lv' := [(1, .int (nI 1)), (0, .ref (G.1 a0))]) hx hb d_Orders_stuckStates_41 rfl hl (by decide) rfl (fun ls hl => ?_)
    refine lv_iconst (v := (nI 0)) hx hb d_Orders_stuckStates_42 (by decide) ?_
    refine lv_istore_n (lv' := [(2, .int (nI 0)), (1, .int (nI 1)), (0, .ref (G.1 a0))]) hx hb d_Orders_stuckStates_43 rfl hl (by decide) rfl (fun ls hl => ?_)
    obtain ⟨g2, e2⟩ : ∃ z, z = u.2 := ⟨_, rfl⟩
    rw [← e2] at hm hI
    exact r_Orders_stuckStates_44 X a0 zN ((nI 1), (nI 0), g2) hm _ _ _ hI (lv_sub hl [2, 1, 0] rfl)
  · replace hm := zif_f hc7 hm
    refine lv_aload_n hx hb d_Orders_stuckStates_10 rfl (lv_at hl 0 rfl) ?_
    obtain ⟨v11, hv, hm⟩ := zbd hm
    refine z_getR X hI F_Orders_35 hv d_Orders_stuckStates_11 ?_
    refine lv_iload_n hx hb d_Orders_stuckStates_14 rfl (lv_at hl 1 rfl) ?_
    refine lv_aload_n hx hb d_Orders_stuckStates_15 rfl (lv_at hl 0 rfl) ?_
    obtain ⟨v16, hv, hm⟩ := zbd hm
    refine z_getR X hI F_Orders_13 hv d_Orders_stuckStates_16 ?_
    refine lv_iload_n hx hb d_Orders_stuckStates_19 rfl (lv_at hl 1 rfl) ?_
    obtain ⟨v20, hv, hm⟩ := zbd hm
    refine z_aald X hI 5 (.array .int) rfl rfl hv d_Orders_stuckStates_20 ?_
    refine lv_bipush (v := (nI 120)) hx hb d_Orders_stuckStates_21 (by decide) ?_
    obtain ⟨v23, hv, hm⟩ := zbd hm
    refine z_iald X hI hv d_Orders_stuckStates_23 ?_
    refine lv_iconst (v := (nI 1)) hx hb d_Orders_stuckStates_24 (by decide) ?_
    refine lv_icmp_ne (tgt := 32) hx hb d_Orders_stuckStates_25 (by decide) (fun hc25 => ?_) (fun hc25 => ?_)
    · replace hm := zif_f hc25 hm
      refine lv_iconst (v := (nI 0)) hx hb d_Orders_stuckStates_32 (by decide) ?_
      obtain ⟨h33, hv, hm⟩ := zbd hm
      refine z_zast X hI hv d_Orders_stuckStates_33 (fun H locs hI => ?_)
      refine lv_iinc (v := (u.1 + (nI 1))) (lv' := [(1, .int (u.1 + (nI 1))), (0, .ref (G.1 a0))]) hx hb d_Orders_stuckStates_34 hl (k := 1) rfl (congrArg (fun z => u.1 + z) (show Int32.ofInt (1) = (nI 1) by decide)) (by decide) rfl (fun ls hl => ?_)
      refine lv_goto (tgt := 2) hx hb d_Orders_stuckStates_37 (by decide) ?_
      obtain ⟨g0, e0⟩ : ∃ z, z = (u.1 + (nI 1)) := ⟨_, rfl⟩
      rw [← e0] at hm hl
      exact hk2 (g0, h33) hm _ _ _ hI (lv_sub hl [1, 0] rfl)
    · replace hm := zif_t hc25 hm
      refine lv_iconst (v := (nI 1)) hx hb d_Orders_stuckStates_28 (by decide) ?_
      refine lv_goto (tgt := 33) hx hb d_Orders_stuckStates_29 (by decide) ?_
      obtain ⟨h33, hv, hm⟩ := zbd hm
      refine z_zast X hI hv d_Orders_stuckStates_33 (fun H locs hI => ?_)
      refine lv_iinc (v := (u.1 + (nI 1))) (lv' := [(1, .int (u.1 + (nI 1))), (0, .ref (G.1 a0))]) hx hb d_Orders_stuckStates_34 hl (k := 1) rfl (congrArg (fun z => u.1 + z) (show Int32.ofInt (1) = (nI 1) by decide)) (by decide) rfl (fun ls hl => ?_)
      refine lv_goto (tgt := 2) hx hb d_Orders_stuckStates_37 (by decide) ?_
      obtain ⟨g0, e0⟩ : ∃ z, z = (u.1 + (nI 1)) := ⟨_, rfl⟩
      rw [← e0] at hm hl
      exact hk2 (g0, h33) hm _ _ _ hI (lv_sub hl [1, 0] rfl)
theorem r_Orders_stuckStates_2 {p : Program} {l : Launch} {e : Env} {s : State} {m : MethodId} {args : Array Value} {below : List Frame} {meth : Method} {c : Code} {G : zG} {K : Nat} (X : zX p s m args meth c "AllHome$Orders" prog_4_method_17_code 4 (some .int) G (zA G K)) {r : Int32} {h' : zH} (a0 : Nat) : ∀ (n : Nat) (w : Int32 × zH), zloop (g_Orders_stuckStates_2 a0) n w = some (r, h') → ∀ (H : Heap) (locs : List Loc) (ls : Array Slot), zI G K s (zA G K) H locs w.2 → lv_has ls 4 [(0, .ref (G.1 a0)), (1, .int w.1)] → W p l e (zR 1) s m args below meth c H locs 0 0 (MQ below (zQi G K r h') args s 0 0 (zA G K)) (F0 m 2 ls []) := by
  intro n
  induction n with
  | zero => intro w hm; cases hm
  | succ n ih => intro w hm H locs ls hI hl; exact r_Orders_stuckStates_2_b X a0 (zloop (g_Orders_stuckStates_2 a0) n) ih w (zls hm) hI hl
set_option maxHeartbeats 4000000 in
set_option maxRecDepth 100000 in
theorem r_Orders_stuckStates_0 {p : Program} {l : Launch} {e : Env} {s : State} {m : MethodId} {args : Array Value} {below : List Frame} {meth : Method} {c : Code} {G : zG} {K : Nat} (X : zX p s m args meth c "AllHome$Orders" prog_4_method_17_code 4 (some .int) G (zA G K)) {r : Int32} {h' : zH} (a0 : Nat) (h : zH) (hm : m_Orders_stuckStates a0 h = some (r, h')) {H : Heap} {locs : List Loc} {ls : Array Slot} (hI : zI G K s (zA G K) H locs h) (hl : lv_has ls 4 [(0, .ref (G.1 a0))]) : W p l e (zR 1) s m args below meth c H locs 0 0 (MQ below (zQi G K r h') args s 0 0 (zA G K)) (F0 m 0 ls []) := by
  obtain ⟨hx, hb, hml, hown, hts, hr, hlocks, hK, hST, hNs⟩ := id X
  unfold m_Orders_stuckStates at hm
  refine lv_iconst (v := (nI 0)) hx hb d_Orders_stuckStates_0 (by decide) ?_
  refine lv_istore_n (lv' := [(1, .int (nI 0)), (0, .ref (G.1 a0))]) hx hb d_Orders_stuckStates_1 rfl hl (by decide) rfl (fun ls hl => ?_)
  exact r_Orders_stuckStates_2 X a0 zN ((nI 0), h) hm _ _ _ hI (lv_sub hl [1, 0] rfl)
set_option maxHeartbeats 4000000 in
set_option maxRecDepth 100000 in
theorem c_Orders_stuckStates (l : Launch) (G : zG) (K : Nat) (a0 : Nat) (h : zH) (r : Int32) (h' : zH) (hm : m_Orders_stuckStates a0 h = some (r, h')) : zMi l G K y_Orders_stuckStates prog_4_method_17_code 4 1 [.ref (G.1 a0)] h r h' := zMet (by decide +kernel) (Nat.le_of_ble_eq_true rfl) (fun p e s m below meth c ls X hI hl => r_Orders_stuckStates_0 X a0 h hm hI hl)
