-- walk of AllHomeModel.goOn
theorem d_Model_goOn_0 : decode prog_9_method_27_code 0 = .ok (.iload_n 1, 1) := by decide +kernel
theorem d_Model_goOn_1 : decode prog_9_method_27_code 1 = .ok (.ifCond .lt 20, 3) := by decide +kernel
theorem d_Model_goOn_4 : decode prog_9_method_27_code 4 = .ok (.iload_n 1, 1) := by decide +kernel
theorem d_Model_goOn_5 : decode prog_9_method_27_code 5 = .ok (.aload_n 0, 1) := by decide +kernel
theorem d_Model_goOn_6 : decode prog_9_method_27_code 6 = .ok (.getfield 78, 3) := by decide +kernel
theorem d_Model_goOn_9 : decode prog_9_method_27_code 9 = .ok (.if_icmp .ge 12, 3) := by decide +kernel
theorem d_Model_goOn_12 : decode prog_9_method_27_code 12 = .ok (.aload_n 0, 1) := by decide +kernel
theorem d_Model_goOn_13 : decode prog_9_method_27_code 13 = .ok (.iload_n 1, 1) := by decide +kernel
theorem d_Model_goOn_14 : decode prog_9_method_27_code 14 = .ok (.iconst 0, 1) := by decide +kernel
theorem d_Model_goOn_15 : decode prog_9_method_27_code 15 = .ok (.invokevirtual 155, 3) := by decide +kernel
theorem d_Model_goOn_18 : decode prog_9_method_27_code 18 = .ok (.ifCond .ne 5, 3) := by decide +kernel
theorem d_Model_goOn_21 : decode prog_9_method_27_code 21 = .ok (.iconst 0, 1) := by decide +kernel
theorem d_Model_goOn_22 : decode prog_9_method_27_code 22 = .ok (.ireturn, 1) := by decide +kernel
theorem d_Model_goOn_23 : decode prog_9_method_27_code 23 = .ok (.aload_n 0, 1) := by decide +kernel
theorem d_Model_goOn_24 : decode prog_9_method_27_code 24 = .ok (.iload_n 1, 1) := by decide +kernel
theorem d_Model_goOn_25 : decode prog_9_method_27_code 25 = .ok (.iconst 1, 1) := by decide +kernel
theorem d_Model_goOn_26 : decode prog_9_method_27_code 26 = .ok (.invokevirtual 155, 3) := by decide +kernel
theorem d_Model_goOn_29 : decode prog_9_method_27_code 29 = .ok (.iconst 1, 1) := by decide +kernel
theorem d_Model_goOn_30 : decode prog_9_method_27_code 30 = .ok (.isub, 1) := by decide +kernel
theorem d_Model_goOn_31 : decode prog_9_method_27_code 31 = .ok (.istore_n 2, 1) := by decide +kernel
theorem d_Model_goOn_32 : decode prog_9_method_27_code 32 = .ok (.iload_n 2, 1) := by decide +kernel
theorem d_Model_goOn_33 : decode prog_9_method_27_code 33 = .ok (.aload_n 0, 1) := by decide +kernel
theorem d_Model_goOn_34 : decode prog_9_method_27_code 34 = .ok (.iload_n 1, 1) := by decide +kernel
theorem d_Model_goOn_35 : decode prog_9_method_27_code 35 = .ok (.invokevirtual 119, 3) := by decide +kernel
theorem d_Model_goOn_38 : decode prog_9_method_27_code 38 = .ok (.if_icmp .ge 18, 3) := by decide +kernel
theorem d_Model_goOn_41 : decode prog_9_method_27_code 41 = .ok (.aload_n 0, 1) := by decide +kernel
theorem d_Model_goOn_42 : decode prog_9_method_27_code 42 = .ok (.iload_n 1, 1) := by decide +kernel
theorem d_Model_goOn_43 : decode prog_9_method_27_code 43 = .ok (.iload_n 2, 1) := by decide +kernel
theorem d_Model_goOn_44 : decode prog_9_method_27_code 44 = .ok (.aload_n 0, 1) := by decide +kernel
theorem d_Model_goOn_45 : decode prog_9_method_27_code 45 = .ok (.iload_n 1, 1) := by decide +kernel
theorem d_Model_goOn_46 : decode prog_9_method_27_code 46 = .ok (.iconst 2, 1) := by decide +kernel
theorem d_Model_goOn_47 : decode prog_9_method_27_code 47 = .ok (.invokevirtual 155, 3) := by decide +kernel
theorem d_Model_goOn_50 : decode prog_9_method_27_code 50 = .ok (.invokevirtual 122, 3) := by decide +kernel
theorem d_Model_goOn_53 : decode prog_9_method_27_code 53 = .ok (.goto 4, 3) := by decide +kernel
theorem d_Model_goOn_56 : decode prog_9_method_27_code 56 = .ok (.iconst (-1), 1) := by decide +kernel
theorem d_Model_goOn_57 : decode prog_9_method_27_code 57 = .ok (.istore_n 3, 1) := by decide +kernel
theorem d_Model_goOn_58 : decode prog_9_method_27_code 58 = .ok (.iload_n 3, 1) := by decide +kernel
theorem d_Model_goOn_59 : decode prog_9_method_27_code 59 = .ok (.ifCond .lt 11, 3) := by decide +kernel
theorem d_Model_goOn_62 : decode prog_9_method_27_code 62 = .ok (.aload_n 0, 1) := by decide +kernel
theorem d_Model_goOn_63 : decode prog_9_method_27_code 63 = .ok (.iload_n 1, 1) := by decide +kernel
theorem d_Model_goOn_64 : decode prog_9_method_27_code 64 = .ok (.iload_n 3, 1) := by decide +kernel
theorem d_Model_goOn_65 : decode prog_9_method_27_code 65 = .ok (.invokevirtual 162, 3) := by decide +kernel
theorem d_Model_goOn_68 : decode prog_9_method_27_code 68 = .ok (.iconst 1, 1) := by decide +kernel
theorem d_Model_goOn_69 : decode prog_9_method_27_code 69 = .ok (.ireturn, 1) := by decide +kernel
theorem d_Model_goOn_70 : decode prog_9_method_27_code 70 = .ok (.aload_n 0, 1) := by decide +kernel
theorem d_Model_goOn_71 : decode prog_9_method_27_code 71 = .ok (.iload_n 1, 1) := by decide +kernel
theorem d_Model_goOn_72 : decode prog_9_method_27_code 72 = .ok (.iconst 0, 1) := by decide +kernel
theorem d_Model_goOn_73 : decode prog_9_method_27_code 73 = .ok (.iconst 0, 1) := by decide +kernel
theorem d_Model_goOn_74 : decode prog_9_method_27_code 74 = .ok (.invokevirtual 166, 3) := by decide +kernel
theorem d_Model_goOn_77 : decode prog_9_method_27_code 77 = .ok (.aload_n 0, 1) := by decide +kernel
theorem d_Model_goOn_78 : decode prog_9_method_27_code 78 = .ok (.getfield 134, 3) := by decide +kernel
theorem d_Model_goOn_81 : decode prog_9_method_27_code 81 = .ok (.iconst 1, 1) := by decide +kernel
theorem d_Model_goOn_82 : decode prog_9_method_27_code 82 = .ok (.if_icmp .ne 35, 3) := by decide +kernel
theorem d_Model_goOn_85 : decode prog_9_method_27_code 85 = .ok (.iload_n 1, 1) := by decide +kernel
theorem d_Model_goOn_86 : decode prog_9_method_27_code 86 = .ok (.ifCond .le 31, 3) := by decide +kernel
theorem d_Model_goOn_89 : decode prog_9_method_27_code 89 = .ok (.aload_n 0, 1) := by decide +kernel
theorem d_Model_goOn_90 : decode prog_9_method_27_code 90 = .ok (.iload_n 1, 1) := by decide +kernel
theorem d_Model_goOn_91 : decode prog_9_method_27_code 91 = .ok (.iconst 3, 1) := by decide +kernel
theorem d_Model_goOn_92 : decode prog_9_method_27_code 92 = .ok (.invokevirtual 155, 3) := by decide +kernel
theorem d_Model_goOn_95 : decode prog_9_method_27_code 95 = .ok (.ifCond .le 22, 3) := by decide +kernel
theorem d_Model_goOn_98 : decode prog_9_method_27_code 98 = .ok (.aload_n 0, 1) := by decide +kernel
theorem d_Model_goOn_99 : decode prog_9_method_27_code 99 = .ok (.iconst 0, 1) := by decide +kernel
theorem d_Model_goOn_100 : decode prog_9_method_27_code 100 = .ok (.aload_n 0, 1) := by decide +kernel
theorem d_Model_goOn_101 : decode prog_9_method_27_code 101 = .ok (.iload_n 1, 1) := by decide +kernel
theorem d_Model_goOn_102 : decode prog_9_method_27_code 102 = .ok (.iconst 3, 1) := by decide +kernel
theorem d_Model_goOn_103 : decode prog_9_method_27_code 103 = .ok (.invokevirtual 155, 3) := by decide +kernel
theorem d_Model_goOn_106 : decode prog_9_method_27_code 106 = .ok (.iconst 0, 1) := by decide +kernel
theorem d_Model_goOn_107 : decode prog_9_method_27_code 107 = .ok (.invokevirtual 169, 3) := by decide +kernel
theorem d_Model_goOn_110 : decode prog_9_method_27_code 110 = .ok (.aload_n 0, 1) := by decide +kernel
theorem d_Model_goOn_111 : decode prog_9_method_27_code 111 = .ok (.iload_n 1, 1) := by decide +kernel
theorem d_Model_goOn_112 : decode prog_9_method_27_code 112 = .ok (.iconst 3, 1) := by decide +kernel
theorem d_Model_goOn_113 : decode prog_9_method_27_code 113 = .ok (.iconst 0, 1) := by decide +kernel
theorem d_Model_goOn_114 : decode prog_9_method_27_code 114 = .ok (.invokevirtual 166, 3) := by decide +kernel
theorem d_Model_goOn_117 : decode prog_9_method_27_code 117 = .ok (.iconst 1, 1) := by decide +kernel
theorem d_Model_goOn_118 : decode prog_9_method_27_code 118 = .ok (.ireturn, 1) := by decide +kernel
set_option maxHeartbeats 4000000 in
set_option maxRecDepth 100000 in
theorem r_Model_goOn_57 {p : Program} {l : Launch} {e : Env} {s : State} {m : MethodId} {args : Array Value} {below : List Frame} {meth : Method} {c : Code} {G : zG} {K : Nat} (X : zX p s m args meth c "AllHomeModel" prog_9_method_27_code 4 (some .boolean) G (zA G K)) {r : Int32} {h' : zH} (a0 : Nat) (x1 : Int32) (y0 : Int32) (h : zH) (hm : g_Model_goOn_57 a0 x1 y0 h = some (r, h')) {H : Heap} {locs : List Loc} {ls : Array Slot} (hI : zI G K s (zA G K) H locs h) (hl : lv_has ls 4 [(0, .ref (G.1 a0)), (1, .int x1)]) : W p l e (zR 3) s m args below meth c H locs 0 0 (MQ below (zQi G K r h') args s 0 0 (zA G K)) (F0 m 57 ls [.int y0]) := by
  obtain ⟨hx, hb, hml, hown, hts, hr, hlocks, hK, hST, hNs⟩ := id X
  unfold g_Model_goOn_57 at hm
  refine lv_istore_n (lv' := [(3, .int y0), (0, .ref (G.1 a0)), (1, .int x1)]) hx hb d_Model_goOn_57 rfl hl (by decide) rfl (fun ls hl => ?_)
  refine lv_iload_n hx hb d_Model_goOn_58 rfl (lv_at hl 0 rfl) ?_
  refine lv_if_lt (tgt := 70) hx hb d_Model_goOn_59 (by decide) (fun hc59 => ?_) (fun hc59 => ?_)
  · replace hm := zif_t hc59 hm
    refine lv_aload_n hx hb d_Model_goOn_70 rfl (lv_at hl 1 rfl) ?_
    refine lv_iload_n hx hb d_Model_goOn_71 rfl (lv_at hl 2 rfl) ?_
    refine lv_iconst (v := (nI 0)) hx hb d_Model_goOn_72 (by decide) ?_
    refine lv_iconst (v := (nI 0)) hx hb d_Model_goOn_73 (by decide) ?_
    obtain ⟨h74, hv, hm⟩ := zbd hm
    obtain ⟨hq, hv⟩ := zcv_at hv
    refine z_cv hI (z_runV (As := [.int x1, .int (nI 0), .int (nI 0)]) (rest := []) X hI hl.1 (c_Model_become l G K a0 x1 (nI 0) (nI 0) h _ hv) C_Model_166 rfl hq (Nat.le_of_ble_eq_true rfl) ⟨Nat.le_of_ble_eq_true rfl, Nat.le_of_ble_eq_true rfl, Nat.zero_le _, Nat.zero_le _⟩ rfl d_Model_goOn_74) (fun H locs hI => ?_)
    refine lv_aload_n hx hb d_Model_goOn_77 rfl (lv_at hl 1 rfl) ?_
    obtain ⟨v78, hv, hm⟩ := zbd hm
    refine z_getI X hI F_Model_134 hv d_Model_goOn_78 ?_
    refine lv_iconst (v := (nI 1)) hx hb d_Model_goOn_81 (by decide) ?_
    refine lv_icmp_ne (tgt := 117) hx hb d_Model_goOn_82 (by decide) (fun hc82 => ?_) (fun hc82 => ?_)
    · replace hm := zif_f hc82 hm
      refine lv_iconst (v := (nI 1)) hx hb d_Model_goOn_117 (by decide) ?_
      obtain ⟨rfl, rfl⟩ := zs2 hm
      exact z_zret X hI (by decide) d_Model_goOn_118
    · replace hm := zif_t hc82 hm
      refine lv_iload_n hx hb d_Model_goOn_85 rfl (lv_at hl 2 rfl) ?_
      refine lv_if_le (tgt := 117) hx hb d_Model_goOn_86 (by decide) (fun hc86 => ?_) (fun hc86 => ?_)
      · replace hm := zif_t hc86 hm
        refine lv_iconst (v := (nI 1)) hx hb d_Model_goOn_117 (by decide) ?_
        obtain ⟨rfl, rfl⟩ := zs2 hm
        exact z_zret X hI (by decide) d_Model_goOn_118
      · replace hm := zif_f hc86 hm
        refine lv_aload_n hx hb d_Model_goOn_89 rfl (lv_at hl 1 rfl) ?_
        refine lv_iload_n hx hb d_Model_goOn_90 rfl (lv_at hl 2 rfl) ?_
        refine lv_iconst (v := (nI 3)) hx hb d_Model_goOn_91 (by decide) ?_
        obtain ⟨v92, hv, hm⟩ := zbd hm
        obtain ⟨hq, hv⟩ := zcv_at hv
        refine z_ci hI (z_runV (As := [.int x1, .int (nI 3)]) (rest := []) X hI hl.1 (c_Model_of l G K a0 x1 (nI 3) h74 _ hv) C_Model_155 rfl hq (Nat.le_of_ble_eq_true rfl) ⟨Nat.le_of_ble_eq_true rfl, Nat.le_of_ble_eq_true rfl, Nat.zero_le _, Nat.zero_le _⟩ rfl d_Model_goOn_92) (fun H locs hI => ?_)
        refine lv_if_le (tgt := 117) hx hb d_Model_goOn_95 (by decide) (fun hc95 => ?_) (fun hc95 => ?_)
        · replace hm := zif_t hc95 hm
          refine lv_iconst (v := (nI 1)) hx hb d_Model_goOn_117 (by decide) ?_
          obtain ⟨rfl, rfl⟩ := zs2 hm
          exact z_zret X hI (by decide) d_Model_goOn_118
        · replace hm := zif_f hc95 hm
          refine lv_aload_n hx hb d_Model_goOn_98 rfl (lv_at hl 1 rfl) ?_
          refine lv_iconst (v := (nI 0)) hx hb d_Model_goOn_99 (by decide) ?_
          refine lv_aload_n hx hb d_Model_goOn_100 rfl (lv_at hl 1 rfl) ?_
          refine lv_iload_n hx hb d_Model_goOn_101 rfl (lv_at hl 2 rfl) ?_
          refine lv_iconst (v := (nI 3)) hx hb d_Model_goOn_102 (by decide) ?_
          obtain ⟨v103, hv, hm⟩ := zbd hm
          obtain ⟨hq, hv⟩ := zcv_at hv
          refine z_ci hI (z_runV (As := [.int x1, .int (nI 3)]) (rest := [.int (nI 0), .ref (G.1 a0)]) X hI hl.1 (c_Model_of l G K a0 x1 (nI 3) h74 _ hv) C_Model_155 rfl hq (Nat.le_of_ble_eq_true rfl) ⟨Nat.le_of_ble_eq_true rfl, Nat.le_of_ble_eq_true rfl, Nat.zero_le _, Nat.zero_le _⟩ rfl d_Model_goOn_103) (fun H locs hI => ?_)
          refine lv_iconst (v := (nI 0)) hx hb d_Model_goOn_106 (by decide) ?_
          obtain ⟨h107, hv, hm⟩ := zbd hm
          obtain ⟨hq, hv⟩ := zcv_at hv
          refine z_cv hI (z_runV (As := [.int (nI 0), .int v103, .int (nI 0)]) (rest := []) X hI hl.1 (c_Model_sendNote l G K a0 (nI 0) v103 (nI 0) h74 _ hv) C_Model_169 rfl hq (Nat.le_of_ble_eq_true rfl) ⟨Nat.le_of_ble_eq_true rfl, Nat.le_of_ble_eq_true rfl, Nat.zero_le _, Nat.zero_le _⟩ rfl d_Model_goOn_107) (fun H locs hI => ?_)
          refine lv_aload_n hx hb d_Model_goOn_110 rfl (lv_at hl 1 rfl) ?_
          refine lv_iload_n hx hb d_Model_goOn_111 rfl (lv_at hl 2 rfl) ?_
          refine lv_iconst (v := (nI 3)) hx hb d_Model_goOn_112 (by decide) ?_
          refine lv_iconst (v := (nI 0)) hx hb d_Model_goOn_113 (by decide) ?_
          obtain ⟨h114, hv, hm⟩ := zbd hm
          obtain ⟨hq, hv⟩ := zcv_at hv
          refine z_cv hI (z_runV (As := [.int x1, .int (nI 3), .int (nI 0)]) (rest := []) X hI hl.1 (c_Model_become l G K a0 x1 (nI 3) (nI 0) h107 _ hv) C_Model_166 rfl hq (Nat.le_of_ble_eq_true rfl) ⟨Nat.le_of_ble_eq_true rfl, Nat.le_of_ble_eq_true rfl, Nat.zero_le _, Nat.zero_le _⟩ rfl d_Model_goOn_114) (fun H locs hI => ?_)
          refine lv_iconst (v := (nI 1)) hx hb d_Model_goOn_117 (by decide) ?_
          obtain ⟨rfl, rfl⟩ := zs2 hm
          exact z_zret X hI (by decide) d_Model_goOn_118
  · replace hm := zif_f hc59 hm
    refine lv_aload_n hx hb d_Model_goOn_62 rfl (lv_at hl 1 rfl) ?_
    refine lv_iload_n hx hb d_Model_goOn_63 rfl (lv_at hl 2 rfl) ?_
    refine lv_iload_n hx hb d_Model_goOn_64 rfl (lv_at hl 0 rfl) ?_
    obtain ⟨h65, hv, hm⟩ := zbd hm
    obtain ⟨hq, hv⟩ := zcv_at hv
    refine z_cv hI (z_runV (As := [.int x1, .int y0]) (rest := []) X hI hl.1 (c_Model_sendWord l G K a0 x1 y0 h _ hv) C_Model_162 rfl hq (Nat.le_of_ble_eq_true rfl) ⟨Nat.le_of_ble_eq_true rfl, Nat.le_of_ble_eq_true rfl, Nat.zero_le _, Nat.zero_le _⟩ rfl d_Model_goOn_65) (fun H locs hI => ?_)
    refine lv_iconst (v := (nI 1)) hx hb d_Model_goOn_68 (by decide) ?_
    obtain ⟨rfl, rfl⟩ := zs2 hm
    exact z_zret X hI (by decide) d_Model_goOn_69
set_option maxHeartbeats 4000000 in
set_option maxRecDepth 100000 in
theorem r_Model_goOn_0 {p : Program} {l : Launch} {e : Env} {s : State} {m : MethodId} {args : Array Value} {below : List Frame} {meth : Method} {c : Code} {G : zG} {K : Nat} (X : zX p s m args meth c "AllHomeModel" prog_9_method_27_code 4 (some .boolean) G (zA G K)) {r : Int32} {h' : zH} (a0 : Nat) (x1 : Int32) (h : zH) (hm : m_Model_goOn a0 x1 h = some (r, h')) {H : Heap} {locs : List Loc} {ls : Array Slot} (hI : zI G K s (zA G K) H locs h) (hl : lv_has ls 4 [(0, .ref (G.1 a0)), (1, .int x1)]) : W p l e (zR 3) s m args below meth c H locs 0 0 (MQ below (zQi G K r h') args s 0 0 (zA G K)) (F0 m 0 ls []) := by
  obtain ⟨hx, hb, hml, hown, hts, hr, hlocks, hK, hST, hNs⟩ := id X
  unfold m_Model_goOn at hm
  refine lv_iload_n hx hb d_Model_goOn_0 rfl (lv_at hl 1 rfl) ?_
  refine lv_if_lt (tgt := 21) hx hb d_Model_goOn_1 (by decide) (fun hc1 => ?_) (fun hc1 => ?_)
  · replace hm := zif_t hc1 hm
    refine lv_iconst (v := (nI 0)) hx hb d_Model_goOn_21 (by decide) ?_
    obtain ⟨rfl, rfl⟩ := zs2 hm
    exact z_zret X hI (by decide) d_Model_goOn_22
  · replace hm := zif_f hc1 hm
    refine lv_iload_n hx hb d_Model_goOn_4 rfl (lv_at hl 1 rfl) ?_
    refine lv_aload_n hx hb d_Model_goOn_5 rfl (lv_at hl 0 rfl) ?_
    obtain ⟨v6, hv, hm⟩ := zbd hm
    refine z_getI X hI F_Model_78 hv d_Model_goOn_6 ?_
    refine lv_icmp_ge (tgt := 21) hx hb d_Model_goOn_9 (by decide) (fun hc9 => ?_) (fun hc9 => ?_)
    · replace hm := zif_t hc9 hm
      refine lv_iconst (v := (nI 0)) hx hb d_Model_goOn_21 (by decide) ?_
      obtain ⟨rfl, rfl⟩ := zs2 hm
      exact z_zret X hI (by decide) d_Model_goOn_22
    · replace hm := zif_f hc9 hm
      refine lv_aload_n hx hb d_Model_goOn_12 rfl (lv_at hl 0 rfl) ?_
      refine lv_iload_n hx hb d_Model_goOn_13 rfl (lv_at hl 1 rfl) ?_
      refine lv_iconst (v := (nI 0)) hx hb d_Model_goOn_14 (by decide) ?_
      obtain ⟨v15, hv, hm⟩ := zbd hm
      obtain ⟨hq, hv⟩ := zcv_at hv
      refine z_ci hI (z_runV (As := [.int x1, .int (nI 0)]) (rest := []) X hI hl.1 (c_Model_of l G K a0 x1 (nI 0) h _ hv) C_Model_155 rfl hq (Nat.le_of_ble_eq_true rfl) ⟨Nat.le_of_ble_eq_true rfl, Nat.le_of_ble_eq_true rfl, Nat.zero_le _, Nat.zero_le _⟩ rfl d_Model_goOn_15) (fun H locs hI => ?_)
      refine lv_if_ne (tgt := 23) hx hb d_Model_goOn_18 (by decide) (fun hc18 => ?_) (fun hc18 => ?_)
      · replace hm := zif_f hc18 hm
        refine lv_aload_n hx hb d_Model_goOn_23 rfl (lv_at hl 0 rfl) ?_
        refine lv_iload_n hx hb d_Model_goOn_24 rfl (lv_at hl 1 rfl) ?_
        refine lv_iconst (v := (nI 1)) hx hb d_Model_goOn_25 (by decide) ?_
        obtain ⟨v26, hv, hm⟩ := zbd hm
        obtain ⟨hq, hv⟩ := zcv_at hv
        refine z_ci hI (z_runV (As := [.int x1, .int (nI 1)]) (rest := []) X hI hl.1 (c_Model_of l G K a0 x1 (nI 1) h _ hv) C_Model_155 rfl hq (Nat.le_of_ble_eq_true rfl) ⟨Nat.le_of_ble_eq_true rfl, Nat.le_of_ble_eq_true rfl, Nat.zero_le _, Nat.zero_le _⟩ rfl d_Model_goOn_26) (fun H locs hI => ?_)
        refine lv_iconst (v := (nI 1)) hx hb d_Model_goOn_29 (by decide) ?_
        refine lv_isub hx hb d_Model_goOn_30 ?_
        refine lv_istore_n (lv' := [(2, .int (v26 - (nI 1))), (0, .ref (G.1 a0)), (1, .int x1)]) hx hb d_Model_goOn_31 rfl hl (by decide) rfl (fun ls hl => ?_)
        refine lv_iload_n hx hb d_Model_goOn_32 rfl (lv_at hl 0 rfl) ?_
        refine lv_aload_n hx hb d_Model_goOn_33 rfl (lv_at hl 1 rfl) ?_
        refine lv_iload_n hx hb d_Model_goOn_34 rfl (lv_at hl 2 rfl) ?_
        obtain ⟨v35, hv, hm⟩ := zbd hm
        obtain ⟨hq, hv⟩ := zcv_at hv
        refine z_ci hI (z_runV (As := [.int x1]) (rest := [.int (v26 - (nI 1))]) X hI hl.1 (c_Model_lines l G K a0 x1 h _ hv) C_Model_119 rfl hq (Nat.le_of_ble_eq_true rfl) ⟨Nat.le_of_ble_eq_true rfl, Nat.le_of_ble_eq_true rfl, Nat.zero_le _, Nat.zero_le _⟩ rfl d_Model_goOn_35) (fun H locs hI => ?_)
        refine lv_icmp_ge (tgt := 56) hx hb d_Model_goOn_38 (by decide) (fun hc38 => ?_) (fun hc38 => ?_)
        · replace hm := zif_t hc38 hm
          refine lv_iconst (v := (-1 : Int32)) hx hb d_Model_goOn_56 (by decide) ?_
          exact r_Model_goOn_57 X a0 x1 (-1 : Int32) h hm hI (lv_sub hl [1, 2] rfl)
        · replace hm := zif_f hc38 hm
          refine lv_aload_n hx hb d_Model_goOn_41 rfl (lv_at hl 1 rfl) ?_
          refine lv_iload_n hx hb d_Model_goOn_42 rfl (lv_at hl 2 rfl) ?_
          refine lv_iload_n hx hb d_Model_goOn_43 rfl (lv_at hl 0 rfl) ?_
          refine lv_aload_n hx hb d_Model_goOn_44 rfl (lv_at hl 1 rfl) ?_
          refine lv_iload_n hx hb d_Model_goOn_45 rfl (lv_at hl 2 rfl) ?_
          refine lv_iconst (v := (nI 2)) hx hb d_Model_goOn_46 (by decide) ?_
          obtain ⟨v47, hv, hm⟩ := zbd hm
          obtain ⟨hq, hv⟩ := zcv_at hv
          refine z_ci hI (z_runV (As := [.int x1, .int (nI 2)]) (rest := [.int (v26 - (nI 1)), .int x1, .ref (G.1 a0)]) X hI hl.1 (c_Model_of l G K a0 x1 (nI 2) h _ hv) C_Model_155 rfl hq (Nat.le_of_ble_eq_true rfl) ⟨Nat.le_of_ble_eq_true rfl, Nat.le_of_ble_eq_true rfl, Nat.zero_le _, Nat.zero_le _⟩ rfl d_Model_goOn_47) (fun H locs hI => ?_)
          obtain ⟨v50, hv, hm⟩ := zbd hm
          obtain ⟨hq, hv⟩ := zcv_at hv
          refine z_ci hI (z_runV (As := [.int x1, .int (v26 - (nI 1)), .int v47]) (rest := []) X hI hl.1 (c_Model_inLine l G K a0 x1 (v26 - (nI 1)) v47 h _ hv) C_Model_122 rfl hq (Nat.le_of_ble_eq_true rfl) ⟨Nat.le_of_ble_eq_true rfl, Nat.le_of_ble_eq_true rfl, Nat.zero_le _, Nat.zero_le _⟩ rfl d_Model_goOn_50) (fun H locs hI => ?_)
          refine lv_goto (tgt := 57) hx hb d_Model_goOn_53 (by decide) ?_
          exact r_Model_goOn_57 X a0 x1 v50 h hm hI (lv_sub hl [1, 2] rfl)
      · replace hm := zif_t hc18 hm
        refine lv_iconst (v := (nI 0)) hx hb d_Model_goOn_21 (by decide) ?_
        obtain ⟨rfl, rfl⟩ := zs2 hm
        exact z_zret X hI (by decide) d_Model_goOn_22
set_option maxHeartbeats 4000000 in
set_option maxRecDepth 100000 in
theorem c_Model_goOn (l : Launch) (G : zG) (K : Nat) (a0 : Nat) (x1 : Int32) (h : zH) (r : Int32) (h' : zH) (hm : m_Model_goOn a0 x1 h = some (r, h')) : zMz l G K y_Model_goOn prog_9_method_27_code 4 3 [.ref (G.1 a0), .int x1] h r h' := zMet (by decide +kernel) (Nat.le_of_ble_eq_true rfl) (fun p e s m below meth c ls X hI hl => r_Model_goOn_0 X a0 x1 h hm hI hl)
-- walk of AllHomeModel.comes
theorem d_Model_comes_0 : decode prog_9_method_28_code 0 = .ok (.iload_n 1, 1) := by decide +kernel
theorem d_Model_comes_1 : decode prog_9_method_28_code 1 = .ok (.ifCond .lt 11, 3) := by decide +kernel
theorem d_Model_comes_4 : decode prog_9_method_28_code 4 = .ok (.iload_n 1, 1) := by decide +kernel
theorem d_Model_comes_5 : decode prog_9_method_28_code 5 = .ok (.aload_n 0, 1) := by decide +kernel
theorem d_Model_comes_6 : decode prog_9_method_28_code 6 = .ok (.invokevirtual 172, 3) := by decide +kernel
theorem d_Model_comes_9 : decode prog_9_method_28_code 9 = .ok (.if_icmp .lt 5, 3) := by decide +kernel
theorem d_Model_comes_12 : decode prog_9_method_28_code 12 = .ok (.iconst 0, 1) := by decide +kernel
theorem d_Model_comes_13 : decode prog_9_method_28_code 13 = .ok (.ireturn, 1) := by decide +kernel
theorem d_Model_comes_14 : decode prog_9_method_28_code 14 = .ok (.aload_n 0, 1) := by decide +kernel
theorem d_Model_comes_15 : decode prog_9_method_28_code 15 = .ok (.getfield 22, 3) := by decide +kernel
theorem d_Model_comes_18 : decode prog_9_method_28_code 18 = .ok (.bipush 37, 2) := by decide +kernel
theorem d_Model_comes_20 : decode prog_9_method_28_code 20 = .ok (.iconst 3, 1) := by decide +kernel
theorem d_Model_comes_21 : decode prog_9_method_28_code 21 = .ok (.iload_n 1, 1) := by decide +kernel
theorem d_Model_comes_22 : decode prog_9_method_28_code 22 = .ok (.imul, 1) := by decide +kernel
theorem d_Model_comes_23 : decode prog_9_method_28_code 23 = .ok (.iadd, 1) := by decide +kernel
theorem d_Model_comes_24 : decode prog_9_method_28_code 24 = .ok (.iaload, 1) := by decide +kernel
theorem d_Model_comes_25 : decode prog_9_method_28_code 25 = .ok (.istore_n 2, 1) := by decide +kernel
theorem d_Model_comes_26 : decode prog_9_method_28_code 26 = .ok (.aload_n 0, 1) := by decide +kernel
theorem d_Model_comes_27 : decode prog_9_method_28_code 27 = .ok (.getfield 22, 3) := by decide +kernel
theorem d_Model_comes_30 : decode prog_9_method_28_code 30 = .ok (.bipush 38, 2) := by decide +kernel
theorem d_Model_comes_32 : decode prog_9_method_28_code 32 = .ok (.iconst 3, 1) := by decide +kernel
theorem d_Model_comes_33 : decode prog_9_method_28_code 33 = .ok (.iload_n 1, 1) := by decide +kernel
theorem d_Model_comes_34 : decode prog_9_method_28_code 34 = .ok (.imul, 1) := by decide +kernel
theorem d_Model_comes_35 : decode prog_9_method_28_code 35 = .ok (.iadd, 1) := by decide +kernel
theorem d_Model_comes_36 : decode prog_9_method_28_code 36 = .ok (.iaload, 1) := by decide +kernel
theorem d_Model_comes_37 : decode prog_9_method_28_code 37 = .ok (.istore_n 3, 1) := by decide +kernel
theorem d_Model_comes_38 : decode prog_9_method_28_code 38 = .ok (.aload_n 0, 1) := by decide +kernel
theorem d_Model_comes_39 : decode prog_9_method_28_code 39 = .ok (.getfield 22, 3) := by decide +kernel
theorem d_Model_comes_42 : decode prog_9_method_28_code 42 = .ok (.bipush 39, 2) := by decide +kernel
theorem d_Model_comes_44 : decode prog_9_method_28_code 44 = .ok (.iconst 3, 1) := by decide +kernel
theorem d_Model_comes_45 : decode prog_9_method_28_code 45 = .ok (.iload_n 1, 1) := by decide +kernel
theorem d_Model_comes_46 : decode prog_9_method_28_code 46 = .ok (.imul, 1) := by decide +kernel
theorem d_Model_comes_47 : decode prog_9_method_28_code 47 = .ok (.iadd, 1) := by decide +kernel
theorem d_Model_comes_48 : decode prog_9_method_28_code 48 = .ok (.iaload, 1) := by decide +kernel
theorem d_Model_comes_49 : decode prog_9_method_28_code 49 = .ok (.istore 4, 2) := by decide +kernel
theorem d_Model_comes_51 : decode prog_9_method_28_code 51 = .ok (.aload_n 0, 1) := by decide +kernel
theorem d_Model_comes_52 : decode prog_9_method_28_code 52 = .ok (.bipush 36, 2) := by decide +kernel
theorem d_Model_comes_54 : decode prog_9_method_28_code 54 = .ok (.iload_n 1, 1) := by decide +kernel
theorem d_Model_comes_55 : decode prog_9_method_28_code 55 = .ok (.invokevirtual 176, 3) := by decide +kernel
theorem d_Model_comes_58 : decode prog_9_method_28_code 58 = .ok (.aload_n 0, 1) := by decide +kernel
theorem d_Model_comes_59 : decode prog_9_method_28_code 59 = .ok (.iload_n 3, 1) := by decide +kernel
theorem d_Model_comes_60 : decode prog_9_method_28_code 60 = .ok (.iconst 0, 1) := by decide +kernel
theorem d_Model_comes_61 : decode prog_9_method_28_code 61 = .ok (.invokevirtual 155, 3) := by decide +kernel
theorem d_Model_comes_64 : decode prog_9_method_28_code 64 = .ok (.ifCond .ne 24, 3) := by decide +kernel
theorem d_Model_comes_67 : decode prog_9_method_28_code 67 = .ok (.aload_n 0, 1) := by decide +kernel
theorem d_Model_comes_68 : decode prog_9_method_28_code 68 = .ok (.iload_n 3, 1) := by decide +kernel
theorem d_Model_comes_69 : decode prog_9_method_28_code 69 = .ok (.iconst 0, 1) := by decide +kernel
theorem d_Model_comes_70 : decode prog_9_method_28_code 70 = .ok (.iconst 1, 1) := by decide +kernel
theorem d_Model_comes_71 : decode prog_9_method_28_code 71 = .ok (.invokevirtual 166, 3) := by decide +kernel
theorem d_Model_comes_74 : decode prog_9_method_28_code 74 = .ok (.aload_n 0, 1) := by decide +kernel
theorem d_Model_comes_75 : decode prog_9_method_28_code 75 = .ok (.iload_n 3, 1) := by decide +kernel
theorem d_Model_comes_76 : decode prog_9_method_28_code 76 = .ok (.iconst 1, 1) := by decide +kernel
theorem d_Model_comes_77 : decode prog_9_method_28_code 77 = .ok (.iconst 1, 1) := by decide +kernel
theorem d_Model_comes_78 : decode prog_9_method_28_code 78 = .ok (.invokevirtual 151, 3) := by decide +kernel
theorem d_Model_comes_81 : decode prog_9_method_28_code 81 = .ok (.aload_n 0, 1) := by decide +kernel
theorem d_Model_comes_82 : decode prog_9_method_28_code 82 = .ok (.iload_n 3, 1) := by decide +kernel
theorem d_Model_comes_83 : decode prog_9_method_28_code 83 = .ok (.iconst 2, 1) := by decide +kernel
theorem d_Model_comes_84 : decode prog_9_method_28_code 84 = .ok (.iconst 0, 1) := by decide +kernel
theorem d_Model_comes_85 : decode prog_9_method_28_code 85 = .ok (.invokevirtual 166, 3) := by decide +kernel
theorem d_Model_comes_88 : decode prog_9_method_28_code 88 = .ok (.aload_n 0, 1) := by decide +kernel
theorem d_Model_comes_89 : decode prog_9_method_28_code 89 = .ok (.getfield 134, 3) := by decide +kernel
theorem d_Model_comes_92 : decode prog_9_method_28_code 92 = .ok (.iconst 1, 1) := by decide +kernel
theorem d_Model_comes_93 : decode prog_9_method_28_code 93 = .ok (.if_icmp .ne 14, 3) := by decide +kernel
theorem d_Model_comes_96 : decode prog_9_method_28_code 96 = .ok (.aload_n 0, 1) := by decide +kernel
theorem d_Model_comes_97 : decode prog_9_method_28_code 97 = .ok (.iload_n 3, 1) := by decide +kernel
theorem d_Model_comes_98 : decode prog_9_method_28_code 98 = .ok (.iconst 3, 1) := by decide +kernel
theorem d_Model_comes_99 : decode prog_9_method_28_code 99 = .ok (.iload 4, 2) := by decide +kernel
theorem d_Model_comes_101 : decode prog_9_method_28_code 101 = .ok (.invokevirtual 151, 3) := by decide +kernel
theorem d_Model_comes_104 : decode prog_9_method_28_code 104 = .ok (.goto 109, 3) := by decide +kernel
theorem d_Model_comes_107 : decode prog_9_method_28_code 107 = .ok (.aload_n 0, 1) := by decide +kernel
theorem d_Model_comes_108 : decode prog_9_method_28_code 108 = .ok (.getfield 134, 3) := by decide +kernel
theorem d_Model_comes_111 : decode prog_9_method_28_code 111 = .ok (.iconst 2, 1) := by decide +kernel
theorem d_Model_comes_112 : decode prog_9_method_28_code 112 = .ok (.invokestatic 159, 3) := by decide +kernel
theorem d_Model_comes_115 : decode prog_9_method_28_code 115 = .ok (.ifCond .eq 39, 3) := by decide +kernel
theorem d_Model_comes_118 : decode prog_9_method_28_code 118 = .ok (.aload_n 0, 1) := by decide +kernel
theorem d_Model_comes_119 : decode prog_9_method_28_code 119 = .ok (.iload_n 3, 1) := by decide +kernel
theorem d_Model_comes_120 : decode prog_9_method_28_code 120 = .ok (.iconst 5, 1) := by decide +kernel
theorem d_Model_comes_121 : decode prog_9_method_28_code 121 = .ok (.invokevirtual 155, 3) := by decide +kernel
theorem d_Model_comes_124 : decode prog_9_method_28_code 124 = .ok (.ifCond .ne 20, 3) := by decide +kernel
theorem d_Model_comes_127 : decode prog_9_method_28_code 127 = .ok (.aload_n 0, 1) := by decide +kernel
theorem d_Model_comes_128 : decode prog_9_method_28_code 128 = .ok (.iload_n 3, 1) := by decide +kernel
theorem d_Model_comes_129 : decode prog_9_method_28_code 129 = .ok (.iconst 5, 1) := by decide +kernel
theorem d_Model_comes_130 : decode prog_9_method_28_code 130 = .ok (.iconst 1, 1) := by decide +kernel
theorem d_Model_comes_131 : decode prog_9_method_28_code 131 = .ok (.invokevirtual 166, 3) := by decide +kernel
theorem d_Model_comes_134 : decode prog_9_method_28_code 134 = .ok (.aload_n 0, 1) := by decide +kernel
theorem d_Model_comes_135 : decode prog_9_method_28_code 135 = .ok (.iload_n 3, 1) := by decide +kernel
theorem d_Model_comes_136 : decode prog_9_method_28_code 136 = .ok (.iconst 4, 1) := by decide +kernel
theorem d_Model_comes_137 : decode prog_9_method_28_code 137 = .ok (.iload_n 2, 1) := by decide +kernel
theorem d_Model_comes_138 : decode prog_9_method_28_code 138 = .ok (.invokevirtual 166, 3) := by decide +kernel
theorem d_Model_comes_141 : decode prog_9_method_28_code 141 = .ok (.goto 72, 3) := by decide +kernel
theorem d_Model_comes_144 : decode prog_9_method_28_code 144 = .ok (.aload_n 0, 1) := by decide +kernel
theorem d_Model_comes_145 : decode prog_9_method_28_code 145 = .ok (.iload_n 2, 1) := by decide +kernel
theorem d_Model_comes_146 : decode prog_9_method_28_code 146 = .ok (.iconst 0, 1) := by decide +kernel
theorem d_Model_comes_147 : decode prog_9_method_28_code 147 = .ok (.iconst 0, 1) := by decide +kernel
theorem d_Model_comes_148 : decode prog_9_method_28_code 148 = .ok (.invokevirtual 169, 3) := by decide +kernel
theorem d_Model_comes_151 : decode prog_9_method_28_code 151 = .ok (.goto 62, 3) := by decide +kernel
theorem d_Model_comes_154 : decode prog_9_method_28_code 154 = .ok (.aload_n 0, 1) := by decide +kernel
theorem d_Model_comes_155 : decode prog_9_method_28_code 155 = .ok (.getfield 134, 3) := by decide +kernel
theorem d_Model_comes_158 : decode prog_9_method_28_code 158 = .ok (.iconst 4, 1) := by decide +kernel
theorem d_Model_comes_159 : decode prog_9_method_28_code 159 = .ok (.invokestatic 159, 3) := by decide +kernel
theorem d_Model_comes_162 : decode prog_9_method_28_code 162 = .ok (.ifCond .eq 33, 3) := by decide +kernel
theorem d_Model_comes_165 : decode prog_9_method_28_code 165 = .ok (.aload_n 0, 1) := by decide +kernel
theorem d_Model_comes_166 : decode prog_9_method_28_code 166 = .ok (.iload_n 3, 1) := by decide +kernel
theorem d_Model_comes_167 : decode prog_9_method_28_code 167 = .ok (.iconst 3, 1) := by decide +kernel
theorem d_Model_comes_168 : decode prog_9_method_28_code 168 = .ok (.iconst (-1), 1) := by decide +kernel
theorem d_Model_comes_169 : decode prog_9_method_28_code 169 = .ok (.invokevirtual 151, 3) := by decide +kernel
theorem d_Model_comes_172 : decode prog_9_method_28_code 172 = .ok (.aload_n 0, 1) := by decide +kernel
theorem d_Model_comes_173 : decode prog_9_method_28_code 173 = .ok (.iload_n 3, 1) := by decide +kernel
theorem d_Model_comes_174 : decode prog_9_method_28_code 174 = .ok (.iconst 4, 1) := by decide +kernel
theorem d_Model_comes_175 : decode prog_9_method_28_code 175 = .ok (.aload_n 0, 1) := by decide +kernel
theorem d_Model_comes_176 : decode prog_9_method_28_code 176 = .ok (.getfield 134, 3) := by decide +kernel
theorem d_Model_comes_179 : decode prog_9_method_28_code 179 = .ok (.bipush 7, 2) := by decide +kernel
theorem d_Model_comes_181 : decode prog_9_method_28_code 181 = .ok (.if_icmp .ne 7, 3) := by decide +kernel
theorem d_Model_comes_184 : decode prog_9_method_28_code 184 = .ok (.iconst 0, 1) := by decide +kernel
theorem d_Model_comes_185 : decode prog_9_method_28_code 185 = .ok (.goto 4, 3) := by decide +kernel
theorem d_Model_comes_188 : decode prog_9_method_28_code 188 = .ok (.iconst 1, 1) := by decide +kernel
theorem d_Model_comes_189 : decode prog_9_method_28_code 189 = .ok (.invokevirtual 166, 3) := by decide +kernel
theorem d_Model_comes_192 : decode prog_9_method_28_code 192 = .ok (.goto 21, 3) := by decide +kernel
theorem d_Model_comes_195 : decode prog_9_method_28_code 195 = .ok (.aload_n 0, 1) := by decide +kernel
theorem d_Model_comes_196 : decode prog_9_method_28_code 196 = .ok (.getfield 134, 3) := by decide +kernel
theorem d_Model_comes_199 : decode prog_9_method_28_code 199 = .ok (.iconst 5, 1) := by decide +kernel
theorem d_Model_comes_200 : decode prog_9_method_28_code 200 = .ok (.invokestatic 159, 3) := by decide +kernel
theorem d_Model_comes_203 : decode prog_9_method_28_code 203 = .ok (.ifCond .eq 10, 3) := by decide +kernel
theorem d_Model_comes_206 : decode prog_9_method_28_code 206 = .ok (.aload_n 0, 1) := by decide +kernel
theorem d_Model_comes_207 : decode prog_9_method_28_code 207 = .ok (.iload_n 3, 1) := by decide +kernel
theorem d_Model_comes_208 : decode prog_9_method_28_code 208 = .ok (.iconst 4, 1) := by decide +kernel
theorem d_Model_comes_209 : decode prog_9_method_28_code 209 = .ok (.iconst 1, 1) := by decide +kernel
theorem d_Model_comes_210 : decode prog_9_method_28_code 210 = .ok (.invokevirtual 151, 3) := by decide +kernel
theorem d_Model_comes_213 : decode prog_9_method_28_code 213 = .ok (.iconst 1, 1) := by decide +kernel
theorem d_Model_comes_214 : decode prog_9_method_28_code 214 = .ok (.ireturn, 1) := by decide +kernel
set_option maxHeartbeats 4000000 in
set_option maxRecDepth 100000 in
theorem r_Model_comes_88 {p : Program} {l : Launch} {e : Env} {s : State} {m : MethodId} {args : Array Value} {below : List Frame} {meth : Method} {c : Code} {G : zG} {K : Nat} (X : zX p s m args meth c "AllHomeModel" prog_9_method_28_code 5 (some .boolean) G (zA G K)) {r : Int32} {h' : zH} (a0 : Nat) (x2 : Int32) (x3 : Int32) (x4 : Int32) (h : zH) (hm : g_Model_comes_88 a0 x2 x3 x4 h = some (r, h')) {H : Heap} {locs : List Loc} {ls : Array Slot} (hI : zI G K s (zA G K) H locs h) (hl : lv_has ls 5 [(0, .ref (G.1 a0)), (2, .int x2), (3, .int x3), (4, .int x4)]) : W p l e (zR 2) s m args below meth c H locs 0 0 (MQ below (zQi G K r h') args s 0 0 (zA G K)) (F0 m 88 ls []) := by
  obtain ⟨hx, hb, hml, hown, hts, hr, hlocks, hK, hST, hNs⟩ := id X
  unfold g_Model_comes_88 at hm
  refine lv_aload_n hx hb d_Model_comes_88 rfl (lv_at hl 0 rfl) ?_
  obtain ⟨v89, hv, hm⟩ := zbd hm
  refine z_getI X hI F_Model_134 hv d_Model_comes_89 ?_
  refine lv_iconst (v := (nI 1)) hx hb d_Model_comes_92 (by decide) ?_
  refine lv_icmp_ne (tgt := 107) hx hb d_Model_comes_93 (by decide) (fun hc93 => ?_) (fun hc93 => ?_)
  · replace hm := zif_f hc93 hm
    refine lv_aload_n hx hb d_Model_comes_107 rfl (lv_at hl 0 rfl) ?_
    obtain ⟨v108, hv, hm⟩ := zbd hm
    refine z_getI X hI F_Model_134 hv d_Model_comes_108 ?_
    refine lv_iconst (v := (nI 2)) hx hb d_Model_comes_111 (by decide) ?_
    obtain ⟨v112, hv, hm⟩ := zbd hm
    refine z_ci hI (z_runS (As := [.int v108, .int (nI 2)]) (rest := []) X hI hl.1 (c_Model_isUnder l G K v108 (nI 2) h _ hv) C_Model_159 rfl (Nat.le_of_ble_eq_true rfl) ⟨Nat.le_of_ble_eq_true rfl, Nat.le_of_ble_eq_true rfl, Nat.zero_le _, Nat.zero_le _⟩ rfl d_Model_comes_112) (fun H locs hI => ?_)
    refine lv_if_eq (tgt := 154) hx hb d_Model_comes_115 (by decide) (fun hc115 => ?_) (fun hc115 => ?_)
    · replace hm := zif_t hc115 hm
      refine lv_aload_n hx hb d_Model_comes_154 rfl (lv_at hl 0 rfl) ?_
      obtain ⟨v155, hv, hm⟩ := zbd hm
      refine z_getI X hI F_Model_134 hv d_Model_comes_155 ?_
      refine lv_iconst (v := (nI 4)) hx hb d_Model_comes_158 (by decide) ?_
      obtain ⟨v159, hv, hm⟩ := zbd hm
      refine z_ci hI (z_runS (As := [.int v155, .int (nI 4)]) (rest := []) X hI hl.1 (c_Model_isUnder l G K v155 (nI 4) h _ hv) C_Model_159 rfl (Nat.le_of_ble_eq_true rfl) ⟨Nat.le_of_ble_eq_true rfl, Nat.le_of_ble_eq_true rfl, Nat.zero_le _, Nat.zero_le _⟩ rfl d_Model_comes_159) (fun H locs hI => ?_)
      refine lv_if_eq (tgt := 195) hx hb d_Model_comes_162 (by decide) (fun hc162 => ?_) (fun hc162 => ?_)
      · replace hm := zif_t hc162 hm
        refine lv_aload_n hx hb d_Model_comes_195 rfl (lv_at hl 0 rfl) ?_
        obtain ⟨v196, hv, hm⟩ := zbd hm
        refine z_getI X hI F_Model_134 hv d_Model_comes_196 ?_
        refine lv_iconst (v := (nI 5)) hx hb d_Model_comes_199 (by decide) ?_
        obtain ⟨v200, hv, hm⟩ := zbd hm
        refine z_ci hI (z_runS (As := [.int v196, .int (nI 5)]) (rest := []) X hI hl.1 (c_Model_isUnder l G K v196 (nI 5) h _ hv) C_Model_159 rfl (Nat.le_of_ble_eq_true rfl) ⟨Nat.le_of_ble_eq_true rfl, Nat.le_of_ble_eq_true rfl, Nat.zero_le _, Nat.zero_le _⟩ rfl d_Model_comes_200) (fun H locs hI => ?_)
        refine lv_if_eq (tgt := 213) hx hb d_Model_comes_203 (by decide) (fun hc203 => ?_) (fun hc203 => ?_)
        · replace hm := zif_t hc203 hm
          refine lv_iconst (v := (nI 1)) hx hb d_Model_comes_213 (by decide) ?_
          obtain ⟨rfl, rfl⟩ := zs2 hm
          exact z_zret X hI (by decide) d_Model_comes_214
        · replace hm := zif_f hc203 hm
          refine lv_aload_n hx hb d_Model_comes_206 rfl (lv_at hl 0 rfl) ?_
          refine lv_iload_n hx hb d_Model_comes_207 rfl (lv_at hl 2 rfl) ?_
          refine lv_iconst (v := (nI 4)) hx hb d_Model_comes_208 (by decide) ?_
          refine lv_iconst (v := (nI 1)) hx hb d_Model_comes_209 (by decide) ?_
          obtain ⟨h210, hv, hm⟩ := zbd hm
          obtain ⟨hq, hv⟩ := zcv_at hv
          refine z_cv hI (z_runV (As := [.int x3, .int (nI 4), .int (nI 1)]) (rest := []) X hI hl.1 (c_Model_add l G K a0 x3 (nI 4) (nI 1) h _ hv) C_Model_151 rfl hq (Nat.le_of_ble_eq_true rfl) ⟨Nat.le_of_ble_eq_true rfl, Nat.le_of_ble_eq_true rfl, Nat.zero_le _, Nat.zero_le _⟩ rfl d_Model_comes_210) (fun H locs hI => ?_)
          refine lv_iconst (v := (nI 1)) hx hb d_Model_comes_213 (by decide) ?_
          obtain ⟨rfl, rfl⟩ := zs2 hm
          exact z_zret X hI (by decide) d_Model_comes_214
      · replace hm := zif_f hc162 hm
        refine lv_aload_n hx hb d_Model_comes_165 rfl (lv_at hl 0 rfl) ?_
        refine lv_iload_n hx hb d_Model_comes_166 rfl (lv_at hl 2 rfl) ?_
        refine lv_iconst (v := (nI 3)) hx hb d_Model_comes_167 (by decide) ?_
        refine lv_iconst (v := (-1 : Int32)) hx hb d_Model_comes_168 (by decide) ?_
        obtain ⟨h169, hv, hm⟩ := zbd hm
        obtain ⟨hq, hv⟩ := zcv_at hv
        refine z_cv hI (z_runV (As := [.int x3, .int (nI 3), .int (-1 : Int32)]) (rest := []) X hI hl.1 (c_Model_add l G K a0 x3 (nI 3) (-1 : Int32) h _ hv) C_Model_151 rfl hq (Nat.le_of_ble_eq_true rfl) ⟨Nat.le_of_ble_eq_true rfl, Nat.le_of_ble_eq_true rfl, Nat.zero_le _, Nat.zero_le _⟩ rfl d_Model_comes_169) (fun H locs hI => ?_)
        refine lv_aload_n hx hb d_Model_comes_172 rfl (lv_at hl 0 rfl) ?_
        refine lv_iload_n hx hb d_Model_comes_173 rfl (lv_at hl 2 rfl) ?_
        refine lv_iconst (v := (nI 4)) hx hb d_Model_comes_174 (by decide) ?_
        refine lv_aload_n hx hb d_Model_comes_175 rfl (lv_at hl 0 rfl) ?_
        obtain ⟨v176, hv, hm⟩ := zbd hm
        refine z_getI X hI F_Model_134 hv d_Model_comes_176 ?_
        refine lv_bipush (v := (nI 7)) hx hb d_Model_comes_179 (by decide) ?_
        refine lv_icmp_ne (tgt := 188) hx hb d_Model_comes_181 (by decide) (fun hc181 => ?_) (fun hc181 => ?_)
        · replace hm := zif_f hc181 hm
          refine lv_iconst (v := (nI 1)) hx hb d_Model_comes_188 (by decide) ?_
          obtain ⟨h189, hv, hm⟩ := zbd hm
          obtain ⟨hq, hv⟩ := zcv_at hv
          refine z_cv hI (z_runV (As := [.int x3, .int (nI 4), .int (nI 1)]) (rest := []) X hI hl.1 (c_Model_become l G K a0 x3 (nI 4) (nI 1) h169 _ hv) C_Model_166 rfl hq (Nat.le_of_ble_eq_true rfl) ⟨Nat.le_of_ble_eq_true rfl, Nat.le_of_ble_eq_true rfl, Nat.zero_le _, Nat.zero_le _⟩ rfl d_Model_comes_189) (fun H locs hI => ?_)
          refine lv_goto (tgt := 213) hx hb d_Model_comes_192 (by decide) ?_
          refine lv_iconst (v := (nI 1)) hx hb d_Model_comes_213 (by decide) ?_
          obtain ⟨rfl, rfl⟩ := zs2 hm
          exact z_zret X hI (by decide) d_Model_comes_214
        · replace hm := zif_t hc181 hm
          refine lv_iconst (v := (nI 0)) hx hb d_Model_comes_184 (by decide) ?_
          refine lv_goto (tgt := 189) hx hb d_Model_comes_185 (by decide) ?_
          obtain ⟨h189, hv, hm⟩ := zbd hm
          obtain ⟨hq, hv⟩ := zcv_at hv
          refine z_cv hI (z_runV (As := [.int x3, .int (nI 4), .int (nI 0)]) (rest := []) X hI hl.1 (c_Model_become l G K a0 x3 (nI 4) (nI 0) h169 _ hv) C_Model_166 rfl hq (Nat.le_of_ble_eq_true rfl) ⟨Nat.le_of_ble_eq_true rfl, Nat.le_of_ble_eq_true rfl, Nat.zero_le _, Nat.zero_le _⟩ rfl d_Model_comes_189) (fun H locs hI => ?_)
          refine lv_goto (tgt := 213) hx hb d_Model_comes_192 (by decide) ?_
          refine lv_iconst (v := (nI 1)) hx hb d_Model_comes_213 (by decide) ?_
          obtain ⟨rfl, rfl⟩ := zs2 hm
          exact z_zret X hI (by decide) d_Model_comes_214
    · replace hm := zif_f hc115 hm
      refine lv_aload_n hx hb d_Model_comes_118 rfl (lv_at hl 0 rfl) ?_
      refine lv_iload_n hx hb d_Model_comes_119 rfl (lv_at hl 2 rfl) ?_
      refine lv_iconst (v := (nI 5)) hx hb d_Model_comes_120 (by decide) ?_
      obtain ⟨v121, hv, hm⟩ := zbd hm
      obtain ⟨hq, hv⟩ := zcv_at hv
      refine z_ci hI (z_runV (As := [.int x3, .int (nI 5)]) (rest := []) X hI hl.1 (c_Model_of l G K a0 x3 (nI 5) h _ hv) C_Model_155 rfl hq (Nat.le_of_ble_eq_true rfl) ⟨Nat.le_of_ble_eq_true rfl, Nat.le_of_ble_eq_true rfl, Nat.zero_le _, Nat.zero_le _⟩ rfl d_Model_comes_121) (fun H locs hI => ?_)
      refine lv_if_ne (tgt := 144) hx hb d_Model_comes_124 (by decide) (fun hc124 => ?_) (fun hc124 => ?_)
      · replace hm := zif_f hc124 hm
        refine lv_aload_n hx hb d_Model_comes_144 rfl (lv_at hl 0 rfl) ?_
        refine lv_iload_n hx hb d_Model_comes_145 rfl (lv_at hl 1 rfl) ?_
        refine lv_iconst (v := (nI 0)) hx hb d_Model_comes_146 (by decide) ?_
        refine lv_iconst (v := (nI 0)) hx hb d_Model_comes_147 (by decide) ?_
        obtain ⟨h148, hv, hm⟩ := zbd hm
        obtain ⟨hq, hv⟩ := zcv_at hv
        refine z_cv hI (z_runV (As := [.int x2, .int (nI 0), .int (nI 0)]) (rest := []) X hI hl.1 (c_Model_sendNote l G K a0 x2 (nI 0) (nI 0) h _ hv) C_Model_169 rfl hq (Nat.le_of_ble_eq_true rfl) ⟨Nat.le_of_ble_eq_true rfl, Nat.le_of_ble_eq_true rfl, Nat.zero_le _, Nat.zero_le _⟩ rfl d_Model_comes_148) (fun H locs hI => ?_)
        refine lv_goto (tgt := 213) hx hb d_Model_comes_151 (by decide) ?_
        refine lv_iconst (v := (nI 1)) hx hb d_Model_comes_213 (by decide) ?_
        obtain ⟨rfl, rfl⟩ := zs2 hm
        exact z_zret X hI (by decide) d_Model_comes_214
      · replace hm := zif_t hc124 hm
        refine lv_aload_n hx hb d_Model_comes_127 rfl (lv_at hl 0 rfl) ?_
        refine lv_iload_n hx hb d_Model_comes_128 rfl (lv_at hl 2 rfl) ?_
        refine lv_iconst (v := (nI 5)) hx hb d_Model_comes_129 (by decide) ?_
        refine lv_iconst (v := (nI 1)) hx hb d_Model_comes_130 (by decide) ?_
        obtain ⟨h131, hv, hm⟩ := zbd hm
        obtain ⟨hq, hv⟩ := zcv_at hv
        refine z_cv hI (z_runV (As := [.int x3, .int (nI 5), .int (nI 1)]) (rest := []) X hI hl.1 (c_Model_become l G K a0 x3 (nI 5) (nI 1) h _ hv) C_Model_166 rfl hq (Nat.le_of_ble_eq_true rfl) ⟨Nat.le_of_ble_eq_true rfl, Nat.le_of_ble_eq_true rfl, Nat.zero_le _, Nat.zero_le _⟩ rfl d_Model_comes_131) (fun H locs hI => ?_)
        refine lv_aload_n hx hb d_Model_comes_134 rfl (lv_at hl 0 rfl) ?_
        refine lv_iload_n hx hb d_Model_comes_135 rfl (lv_at hl 2 rfl) ?_
        refine lv_iconst (v := (nI 4)) hx hb d_Model_comes_136 (by decide) ?_
        refine lv_iload_n hx hb d_Model_comes_137 rfl (lv_at hl 1 rfl) ?_
        obtain ⟨h138, hv, hm⟩ := zbd hm
        obtain ⟨hq, hv⟩ := zcv_at hv
        refine z_cv hI (z_runV (As := [.int x3, .int (nI 4), .int x2]) (rest := []) X hI hl.1 (c_Model_become l G K a0 x3 (nI 4) x2 h131 _ hv) C_Model_166 rfl hq (Nat.le_of_ble_eq_true rfl) ⟨Nat.le_of_ble_eq_true rfl, Nat.le_of_ble_eq_true rfl, Nat.zero_le _, Nat.zero_le _⟩ rfl d_Model_comes_138) (fun H locs hI => ?_)
        refine lv_goto (tgt := 213) hx hb d_Model_comes_141 (by decide) ?_
        refine lv_iconst (v := (nI 1)) hx hb d_Model_comes_213 (by decide) ?_
        obtain ⟨rfl, rfl⟩ := zs2 hm
        exact z_zret X hI (by decide) d_Model_comes_214
  · replace hm := zif_t hc93 hm
    refine lv_aload_n hx hb d_Model_comes_96 rfl (lv_at hl 0 rfl) ?_
    refine lv_iload_n hx hb d_Model_comes_97 rfl (lv_at hl 2 rfl) ?_
    refine lv_iconst (v := (nI 3)) hx hb d_Model_comes_98 (by decide) ?_
    refine lv_iload hx hb d_Model_comes_99 (lv_at hl 3 rfl) ?_
    obtain ⟨h101, hv, hm⟩ := zbd hm
    obtain ⟨hq, hv⟩ := zcv_at hv
    refine z_cv hI (z_runV (As := [.int x3, .int (nI 3), .int x4]) (rest := []) X hI hl.1 (c_Model_add l G K a0 x3 (nI 3) x4 h _ hv) C_Model_151 rfl hq (Nat.le_of_ble_eq_true rfl) ⟨Nat.le_of_ble_eq_true rfl, Nat.le_of_ble_eq_true rfl, Nat.zero_le _, Nat.zero_le _⟩ rfl d_Model_comes_101) (fun H locs hI => ?_)
    refine lv_goto (tgt := 213) hx hb d_Model_comes_104 (by decide) ?_
    refine lv_iconst (v := (nI 1)) hx hb d_Model_comes_213 (by decide) ?_
    obtain ⟨rfl, rfl⟩ := zs2 hm
    exact z_zret X hI (by decide) d_Model_comes_214
set_option maxHeartbeats 4000000 in
set_option maxRecDepth 100000 in
theorem r_Model_comes_0 {p : Program} {l : Launch} {e : Env} {s : State} {m : MethodId} {args : Array Value} {below : List Frame} {meth : Method} {c : Code} {G : zG} {K : Nat} (X : zX p s m args meth c "AllHomeModel" prog_9_method_28_code 5 (some .boolean) G (zA G K)) {r : Int32} {h' : zH} (a0 : Nat) (x1 : Int32) (h : zH) (hm : m_Model_comes a0 x1 h = some (r, h')) {H : Heap} {locs : List Loc} {ls : Array Slot} (hI : zI G K s (zA G K) H locs h) (hl : lv_has ls 5 [(0, .ref (G.1 a0)), (1, .int x1)]) : W p l e (zR 2) s m args below meth c H locs 0 0 (MQ below (zQi G K r h') args s 0 0 (zA G K)) (F0 m 0 ls []) := by
  obtain ⟨hx, hb, hml, hown, hts, hr, hlocks, hK, hST, hNs⟩ := id X
  unfold m_Model_comes at hm
  refine lv_iload_n hx hb d_Model_comes_0 rfl (lv_at hl 1 rfl) ?_
  refine lv_if_lt (tgt := 12) hx hb d_Model_comes_1 (by decide) (fun hc1 => ?_) (fun hc1 => ?_)
  · replace hm := zif_t hc1 hm
    refine lv_iconst (v := (nI 0)) hx hb d_Model_comes_12 (by decide) ?_
    obtain ⟨rfl, rfl⟩ := zs2 hm
    exact z_zret X hI (by decide) d_Model_comes_13
  · replace hm := zif_f hc1 hm
    refine lv_iload_n hx hb d_Model_comes_4 rfl (lv_at hl 1 rfl) ?_
    refine lv_aload_n hx hb d_Model_comes_5 rfl (lv_at hl 0 rfl) ?_
    obtain ⟨v6, hv, hm⟩ := zbd hm
    obtain ⟨hq, hv⟩ := zcv_at hv
    refine z_ci hI (z_runV (As := []) (rest := [.int x1]) X hI hl.1 (c_Model_words l G K a0 h _ hv) C_Model_172 rfl hq (Nat.le_of_ble_eq_true rfl) ⟨Nat.le_of_ble_eq_true rfl, Nat.le_of_ble_eq_true rfl, Nat.zero_le _, Nat.zero_le _⟩ rfl d_Model_comes_6) (fun H locs hI => ?_)
    refine lv_icmp_lt (tgt := 14) hx hb d_Model_comes_9 (by decide) (fun hc9 => ?_) (fun hc9 => ?_)
    · replace hm := zif_t hc9 hm
      refine lv_aload_n hx hb d_Model_comes_14 rfl (lv_at hl 0 rfl) ?_
      obtain ⟨v15, hv, hm⟩ := zbd hm
      refine z_getR X hI F_Model_22 hv d_Model_comes_15 ?_
      refine lv_bipush (v := (nI 37)) hx hb d_Model_comes_18 (by decide) ?_
      refine lv_iconst (v := (nI 3)) hx hb d_Model_comes_20 (by decide) ?_
      refine lv_iload_n hx hb d_Model_comes_21 rfl (lv_at hl 1 rfl) ?_
      refine lv_imul hx hb d_Model_comes_22 ?_
      refine lv_iadd hx hb d_Model_comes_23 ?_
      obtain ⟨v24, hv, hm⟩ := zbd hm
      refine z_iald X hI hv d_Model_comes_24 ?_
      refine lv_istore_n (lv' := [(2, .int v24), (0, .ref (G.1 a0)), (1, .int x1)]) hx hb d_Model_comes_25 rfl hl (by decide) rfl (fun ls hl => ?_)
      refine lv_aload_n hx hb d_Model_comes_26 rfl (lv_at hl 1 rfl) ?_
      obtain ⟨v27, hv, hm⟩ := zbd hm
      refine z_getR X hI F_Model_22 hv d_Model_comes_27 ?_
      refine lv_bipush (v := (nI 38)) hx hb d_Model_comes_30 (by decide) ?_
      refine lv_iconst (v := (nI 3)) hx hb d_Model_comes_32 (by decide) ?_
      refine lv_iload_n hx hb d_Model_comes_33 rfl (lv_at hl 2 rfl) ?_
      refine lv_imul hx hb d_Model_comes_34 ?_
      refine lv_iadd hx hb d_Model_comes_35 ?_
      obtain ⟨v36, hv, hm⟩ := zbd hm
      refine z_iald X hI hv d_Model_comes_36 ?_
      refine lv_istore_n (lv' := [(3, .int v36), (2, .int v24), (0, .ref (G.1 a0)), (1, .int x1)]) hx hb d_Model_comes_37 rfl hl (by decide) rfl (fun ls hl => ?_)
      refine lv_aload_n hx hb d_Model_comes_38 rfl (lv_at hl 2 rfl) ?_
      obtain ⟨v39, hv, hm⟩ := zbd hm
      refine z_getR X hI F_Model_22 hv d_Model_comes_39 ?_
      refine lv_bipush (v := (nI 39)) hx hb d_Model_comes_42 (by decide) ?_
      refine lv_iconst (v := (nI 3)) hx hb d_Model_comes_44 (by decide) ?_
      refine lv_iload_n hx hb d_Model_comes_45 rfl (lv_at hl 3 rfl) ?_
      refine lv_imul hx hb d_Model_comes_46 ?_
      refine lv_iadd hx hb d_Model_comes_47 ?_
      obtain ⟨v48, hv, hm⟩ := zbd hm
      refine z_iald X hI hv d_Model_comes_48 ?_
      refine lv_istore (lv' := [(4, .int v48), (3, .int v36), (2, .int v24), (0, .ref (G.1 a0)), (1, .int x1)]) hx hb d_Model_comes_49 hl (by decide) rfl (fun ls hl => ?_)
      refine lv_aload_n hx hb d_Model_comes_51 rfl (lv_at hl 3 rfl) ?_
      refine lv_bipush (v := (nI 36)) hx hb d_Model_comes_52 (by decide) ?_
      refine lv_iload_n hx hb d_Model_comes_54 rfl (lv_at hl 4 rfl) ?_
      obtain ⟨h55, hv, hm⟩ := zbd hm
      obtain ⟨hq, hv⟩ := zcv_at hv
      refine z_cv hI (z_runV (As := [.int (nI 36), .int x1]) (rest := []) X hI hl.1 (c_Model_takeOut l G K a0 (nI 36) x1 h _ hv) C_Model_176 rfl hq (Nat.le_of_ble_eq_true rfl) ⟨Nat.le_of_ble_eq_true rfl, Nat.le_of_ble_eq_true rfl, Nat.zero_le _, Nat.zero_le _⟩ rfl d_Model_comes_55) (fun H locs hI => ?_)
      refine lv_aload_n hx hb d_Model_comes_58 rfl (lv_at hl 3 rfl) ?_
      refine lv_iload_n hx hb d_Model_comes_59 rfl (lv_at hl 1 rfl) ?_
      refine lv_iconst (v := (nI 0)) hx hb d_Model_comes_60 (by decide) ?_
      obtain ⟨v61, hv, hm⟩ := zbd hm
      obtain ⟨hq, hv⟩ := zcv_at hv
      refine z_ci hI (z_runV (As := [.int v36, .int (nI 0)]) (rest := []) X hI hl.1 (c_Model_of l G K a0 v36 (nI 0) h55 _ hv) C_Model_155 rfl hq (Nat.le_of_ble_eq_true rfl) ⟨Nat.le_of_ble_eq_true rfl, Nat.le_of_ble_eq_true rfl, Nat.zero_le _, Nat.zero_le _⟩ rfl d_Model_comes_61) (fun H locs hI => ?_)
      refine lv_if_ne (tgt := 88) hx hb d_Model_comes_64 (by decide) (fun hc64 => ?_) (fun hc64 => ?_)
      · replace hm := zif_f hc64 hm
        exact r_Model_comes_88 X a0 v24 v36 v48 h55 hm hI (lv_sub hl [3, 2, 1, 0] rfl)
      · replace hm := zif_t hc64 hm
        refine lv_aload_n hx hb d_Model_comes_67 rfl (lv_at hl 3 rfl) ?_
        refine lv_iload_n hx hb d_Model_comes_68 rfl (lv_at hl 1 rfl) ?_
        refine lv_iconst (v := (nI 0)) hx hb d_Model_comes_69 (by decide) ?_
        refine lv_iconst (v := (nI 1)) hx hb d_Model_comes_70 (by decide) ?_
        obtain ⟨h71, hv, hm⟩ := zbd hm
        obtain ⟨hq, hv⟩ := zcv_at hv
        refine z_cv hI (z_runV (As := [.int v36, .int (nI 0), .int (nI 1)]) (rest := []) X hI hl.1 (c_Model_become l G K a0 v36 (nI 0) (nI 1) h55 _ hv) C_Model_166 rfl hq (Nat.le_of_ble_eq_true rfl) ⟨Nat.le_of_ble_eq_true rfl, Nat.le_of_ble_eq_true rfl, Nat.zero_le _, Nat.zero_le _⟩ rfl d_Model_comes_71) (fun H locs hI => ?_)
        refine lv_aload_n hx hb d_Model_comes_74 rfl (lv_at hl 3 rfl) ?_
        refine lv_iload_n hx hb d_Model_comes_75 rfl (lv_at hl 1 rfl) ?_
        refine lv_iconst (v := (nI 1)) hx hb d_Model_comes_76 (by decide) ?_
        refine lv_iconst (v := (nI 1)) hx hb d_Model_comes_77 (by decide) ?_
        obtain ⟨h78, hv, hm⟩ := zbd hm
        obtain ⟨hq, hv⟩ := zcv_at hv
        refine z_cv hI (z_runV (As := [.int v36, .int (nI 1), .int (nI 1)]) (rest := []) X hI hl.1 (c_Model_add l G K a0 v36 (nI 1) (nI 1) h71 _ hv) C_Model_151 rfl hq (Nat.le_of_ble_eq_true rfl) ⟨Nat.le_of_ble_eq_true rfl, Nat.le_of_ble_eq_true rfl, Nat.zero_le _, Nat.zero_le _⟩ rfl d_Model_comes_78) (fun H locs hI => ?_)
        refine lv_aload_n hx hb d_Model_comes_81 rfl (lv_at hl 3 rfl) ?_
        refine lv_iload_n hx hb d_Model_comes_82 rfl (lv_at hl 1 rfl) ?_
        refine lv_iconst (v := (nI 2)) hx hb d_Model_comes_83 (by decide) ?_
        refine lv_iconst (v := (nI 0)) hx hb d_Model_comes_84 (by decide) ?_
        obtain ⟨h85, hv, hm⟩ := zbd hm
        obtain ⟨hq, hv⟩ := zcv_at hv
        refine z_cv hI (z_runV (As := [.int v36, .int (nI 2), .int (nI 0)]) (rest := []) X hI hl.1 (c_Model_become l G K a0 v36 (nI 2) (nI 0) h78 _ hv) C_Model_166 rfl hq (Nat.le_of_ble_eq_true rfl) ⟨Nat.le_of_ble_eq_true rfl, Nat.le_of_ble_eq_true rfl, Nat.zero_le _, Nat.zero_le _⟩ rfl d_Model_comes_85) (fun H locs hI => ?_)
        exact r_Model_comes_88 X a0 v24 v36 v48 h85 hm hI (lv_sub hl [3, 2, 1, 0] rfl)
    · replace hm := zif_f hc9 hm
      refine lv_iconst (v := (nI 0)) hx hb d_Model_comes_12 (by decide) ?_
      obtain ⟨rfl, rfl⟩ := zs2 hm
      exact z_zret X hI (by decide) d_Model_comes_13
set_option maxHeartbeats 4000000 in
set_option maxRecDepth 100000 in
theorem c_Model_comes (l : Launch) (G : zG) (K : Nat) (a0 : Nat) (x1 : Int32) (h : zH) (r : Int32) (h' : zH) (hm : m_Model_comes a0 x1 h = some (r, h')) : zMz l G K y_Model_comes prog_9_method_28_code 5 2 [.ref (G.1 a0), .int x1] h r h' := zMet (by decide +kernel) (Nat.le_of_ble_eq_true rfl) (fun p e s m below meth c ls X hI hl => r_Model_comes_0 X a0 x1 h hm hI hl)
-- walk of AllHomeModel.stoneAt
theorem d_Model_stoneAt_0 : decode prog_9_method_30_code 0 = .ok (.iload_n 1, 1) := by decide +kernel
theorem d_Model_stoneAt_1 : decode prog_9_method_30_code 1 = .ok (.ifCond .ne 58, 3) := by decide +kernel
theorem d_Model_stoneAt_4 : decode prog_9_method_30_code 4 = .ok (.iload_n 3, 1) := by decide +kernel
theorem d_Model_stoneAt_5 : decode prog_9_method_30_code 5 = .ok (.ifCond .ne 27, 3) := by decide +kernel
theorem d_Model_stoneAt_8 : decode prog_9_method_30_code 8 = .ok (.aload_n 0, 1) := by decide +kernel
theorem d_Model_stoneAt_9 : decode prog_9_method_30_code 9 = .ok (.iconst 0, 1) := by decide +kernel
theorem d_Model_stoneAt_10 : decode prog_9_method_30_code 10 = .ok (.iconst 4, 1) := by decide +kernel
theorem d_Model_stoneAt_11 : decode prog_9_method_30_code 11 = .ok (.invokevirtual 155, 3) := by decide +kernel
theorem d_Model_stoneAt_14 : decode prog_9_method_30_code 14 = .ok (.ifCond .ne 18, 3) := by decide +kernel
theorem d_Model_stoneAt_17 : decode prog_9_method_30_code 17 = .ok (.iload_n 2, 1) := by decide +kernel
theorem d_Model_stoneAt_18 : decode prog_9_method_30_code 18 = .ok (.aload_n 0, 1) := by decide +kernel
theorem d_Model_stoneAt_19 : decode prog_9_method_30_code 19 = .ok (.iconst 0, 1) := by decide +kernel
theorem d_Model_stoneAt_20 : decode prog_9_method_30_code 20 = .ok (.iconst 3, 1) := by decide +kernel
theorem d_Model_stoneAt_21 : decode prog_9_method_30_code 21 = .ok (.invokevirtual 155, 3) := by decide +kernel
theorem d_Model_stoneAt_24 : decode prog_9_method_30_code 24 = .ok (.iadd, 1) := by decide +kernel
theorem d_Model_stoneAt_25 : decode prog_9_method_30_code 25 = .ok (.ifCond .ne 7, 3) := by decide +kernel
theorem d_Model_stoneAt_28 : decode prog_9_method_30_code 28 = .ok (.iconst 1, 1) := by decide +kernel
theorem d_Model_stoneAt_29 : decode prog_9_method_30_code 29 = .ok (.goto 4, 3) := by decide +kernel
theorem d_Model_stoneAt_32 : decode prog_9_method_30_code 32 = .ok (.iconst 0, 1) := by decide +kernel
theorem d_Model_stoneAt_33 : decode prog_9_method_30_code 33 = .ok (.istore 4, 2) := by decide +kernel
theorem d_Model_stoneAt_35 : decode prog_9_method_30_code 35 = .ok (.aload_n 0, 1) := by decide +kernel
theorem d_Model_stoneAt_36 : decode prog_9_method_30_code 36 = .ok (.getfield 22, 3) := by decide +kernel
theorem d_Model_stoneAt_39 : decode prog_9_method_30_code 39 = .ok (.bipush 87, 2) := by decide +kernel
theorem d_Model_stoneAt_41 : decode prog_9_method_30_code 41 = .ok (.iload 4, 2) := by decide +kernel
theorem d_Model_stoneAt_43 : decode prog_9_method_30_code 43 = .ok (.ifCond .eq 7, 3) := by decide +kernel
theorem d_Model_stoneAt_46 : decode prog_9_method_30_code 46 = .ok (.iconst 1, 1) := by decide +kernel
theorem d_Model_stoneAt_47 : decode prog_9_method_30_code 47 = .ok (.goto 10, 3) := by decide +kernel
theorem d_Model_stoneAt_50 : decode prog_9_method_30_code 50 = .ok (.aload_n 0, 1) := by decide +kernel
theorem d_Model_stoneAt_51 : decode prog_9_method_30_code 51 = .ok (.getfield 22, 3) := by decide +kernel
theorem d_Model_stoneAt_54 : decode prog_9_method_30_code 54 = .ok (.bipush 87, 2) := by decide +kernel
theorem d_Model_stoneAt_56 : decode prog_9_method_30_code 56 = .ok (.iaload, 1) := by decide +kernel
theorem d_Model_stoneAt_57 : decode prog_9_method_30_code 57 = .ok (.iastore, 1) := by decide +kernel
theorem d_Model_stoneAt_58 : decode prog_9_method_30_code 58 = .ok (.return_, 1) := by decide +kernel
theorem d_Model_stoneAt_59 : decode prog_9_method_30_code 59 = .ok (.aload_n 0, 1) := by decide +kernel
theorem d_Model_stoneAt_60 : decode prog_9_method_30_code 60 = .ok (.iload_n 1, 1) := by decide +kernel
theorem d_Model_stoneAt_61 : decode prog_9_method_30_code 61 = .ok (.iconst 4, 1) := by decide +kernel
theorem d_Model_stoneAt_62 : decode prog_9_method_30_code 62 = .ok (.invokevirtual 155, 3) := by decide +kernel
theorem d_Model_stoneAt_65 : decode prog_9_method_30_code 65 = .ok (.iconst 1, 1) := by decide +kernel
theorem d_Model_stoneAt_66 : decode prog_9_method_30_code 66 = .ok (.if_icmp .ne 7, 3) := by decide +kernel
theorem d_Model_stoneAt_69 : decode prog_9_method_30_code 69 = .ok (.iconst 1, 1) := by decide +kernel
theorem d_Model_stoneAt_70 : decode prog_9_method_30_code 70 = .ok (.goto 4, 3) := by decide +kernel
theorem d_Model_stoneAt_73 : decode prog_9_method_30_code 73 = .ok (.iload_n 3, 1) := by decide +kernel
theorem d_Model_stoneAt_74 : decode prog_9_method_30_code 74 = .ok (.istore 4, 2) := by decide +kernel
theorem d_Model_stoneAt_76 : decode prog_9_method_30_code 76 = .ok (.aload_n 0, 1) := by decide +kernel
theorem d_Model_stoneAt_77 : decode prog_9_method_30_code 77 = .ok (.iload_n 1, 1) := by decide +kernel
theorem d_Model_stoneAt_78 : decode prog_9_method_30_code 78 = .ok (.iconst 4, 1) := by decide +kernel
theorem d_Model_stoneAt_79 : decode prog_9_method_30_code 79 = .ok (.iconst 0, 1) := by decide +kernel
theorem d_Model_stoneAt_80 : decode prog_9_method_30_code 80 = .ok (.invokevirtual 166, 3) := by decide +kernel
theorem d_Model_stoneAt_83 : decode prog_9_method_30_code 83 = .ok (.aload_n 0, 1) := by decide +kernel
theorem d_Model_stoneAt_84 : decode prog_9_method_30_code 84 = .ok (.iload_n 1, 1) := by decide +kernel
theorem d_Model_stoneAt_85 : decode prog_9_method_30_code 85 = .ok (.iconst 1, 1) := by decide +kernel
theorem d_Model_stoneAt_86 : decode prog_9_method_30_code 86 = .ok (.isub, 1) := by decide +kernel
theorem d_Model_stoneAt_87 : decode prog_9_method_30_code 87 = .ok (.iload_n 2, 1) := by decide +kernel
theorem d_Model_stoneAt_88 : decode prog_9_method_30_code 88 = .ok (.aload_n 0, 1) := by decide +kernel
theorem d_Model_stoneAt_89 : decode prog_9_method_30_code 89 = .ok (.iload_n 1, 1) := by decide +kernel
theorem d_Model_stoneAt_90 : decode prog_9_method_30_code 90 = .ok (.iconst 3, 1) := by decide +kernel
theorem d_Model_stoneAt_91 : decode prog_9_method_30_code 91 = .ok (.invokevirtual 155, 3) := by decide +kernel
theorem d_Model_stoneAt_94 : decode prog_9_method_30_code 94 = .ok (.iadd, 1) := by decide +kernel
theorem d_Model_stoneAt_95 : decode prog_9_method_30_code 95 = .ok (.iload 4, 2) := by decide +kernel
theorem d_Model_stoneAt_97 : decode prog_9_method_30_code 97 = .ok (.invokevirtual 169, 3) := by decide +kernel
theorem d_Model_stoneAt_100 : decode prog_9_method_30_code 100 = .ok (.return_, 1) := by decide +kernel
set_option maxHeartbeats 4000000 in
set_option maxRecDepth 100000 in
theorem r_Model_stoneAt_74 {p : Program} {l : Launch} {e : Env} {s : State} {m : MethodId} {args : Array Value} {below : List Frame} {meth : Method} {c : Code} {G : zG} {K : Nat} (X : zX p s m args meth c "AllHomeModel" prog_9_method_30_code 5 none G (zA G K)) {h' : zH} (a0 : Nat) (x1 : Int32) (x2 : Int32) (y0 : Int32) (h : zH) (hm : g_Model_stoneAt_74 a0 x1 x2 y0 h = some h') {H : Heap} {locs : List Loc} {ls : Array Slot} (hI : zI G K s (zA G K) H locs h) (hl : lv_has ls 5 [(0, .ref (G.1 a0)), (1, .int x1), (2, .int x2)]) : W p l e (zR 2) s m args below meth c H locs 0 0 (MQ below (zQv G K h') args s 0 0 (zA G K)) (F0 m 74 ls [.int y0]) := by
  obtain ⟨hx, hb, hml, hown, hts, hr, hlocks, hK, hST, hNs⟩ := id X
  unfold g_Model_stoneAt_74 at hm
  refine lv_istore (lv' := [(4, .int y0), (0, .ref (G.1 a0)), (1, .int x1), (2, .int x2)]) hx hb d_Model_stoneAt_74 hl (by decide) rfl (fun ls hl => ?_)
  refine lv_aload_n hx hb d_Model_stoneAt_76 rfl (lv_at hl 1 rfl) ?_
  refine lv_iload_n hx hb d_Model_stoneAt_77 rfl (lv_at hl 2 rfl) ?_
  refine lv_iconst (v := (nI 4)) hx hb d_Model_stoneAt_78 (by decide) ?_
  refine lv_iconst (v := (nI 0)) hx hb d_Model_stoneAt_79 (by decide) ?_
  obtain ⟨h80, hv, hm⟩ := zbd hm
  obtain ⟨hq, hv⟩ := zcv_at hv
  refine z_cv hI (z_runV (As := [.int x1, .int (nI 4), .int (nI 0)]) (rest := []) X hI hl.1 (c_Model_become l G K a0 x1 (nI 4) (nI 0) h _ hv) C_Model_166 rfl hq (Nat.le_of_ble_eq_true rfl) ⟨Nat.le_of_ble_eq_true rfl, Nat.le_of_ble_eq_true rfl, Nat.zero_le _, Nat.zero_le _⟩ rfl d_Model_stoneAt_80) (fun H locs hI => ?_)
  refine lv_aload_n hx hb d_Model_stoneAt_83 rfl (lv_at hl 1 rfl) ?_
  refine lv_iload_n hx hb d_Model_stoneAt_84 rfl (lv_at hl 2 rfl) ?_
  refine lv_iconst (v := (nI 1)) hx hb d_Model_stoneAt_85 (by decide) ?_
  refine lv_isub hx hb d_Model_stoneAt_86 ?_
  refine lv_iload_n hx hb d_Model_stoneAt_87 rfl (lv_at hl 3 rfl) ?_
  refine lv_aload_n hx hb d_Model_stoneAt_88 rfl (lv_at hl 1 rfl) ?_
  refine lv_iload_n hx hb d_Model_stoneAt_89 rfl (lv_at hl 2 rfl) ?_
  refine lv_iconst (v := (nI 3)) hx hb d_Model_stoneAt_90 (by decide) ?_
  obtain ⟨v91, hv, hm⟩ := zbd hm
  obtain ⟨hq, hv⟩ := zcv_at hv
  refine z_ci hI (z_runV (As := [.int x1, .int (nI 3)]) (rest := [.int x2, .int (x1 - (nI 1)), .ref (G.1 a0)]) X hI hl.1 (c_Model_of l G K a0 x1 (nI 3) h80 _ hv) C_Model_155 rfl hq (Nat.le_of_ble_eq_true rfl) ⟨Nat.le_of_ble_eq_true rfl, Nat.le_of_ble_eq_true rfl, Nat.zero_le _, Nat.zero_le _⟩ rfl d_Model_stoneAt_91) (fun H locs hI => ?_)
  refine lv_iadd hx hb d_Model_stoneAt_94 ?_
  refine lv_iload hx hb d_Model_stoneAt_95 (lv_at hl 0 rfl) ?_
  obtain ⟨h97, hv, hm⟩ := zbd hm
  obtain ⟨hq, hv⟩ := zcv_at hv
  refine z_cv hI (z_runV (As := [.int (x1 - (nI 1)), .int (x2 + v91), .int y0]) (rest := []) X hI hl.1 (c_Model_sendNote l G K a0 (x1 - (nI 1)) (x2 + v91) y0 h80 _ hv) C_Model_169 rfl hq (Nat.le_of_ble_eq_true rfl) ⟨Nat.le_of_ble_eq_true rfl, Nat.le_of_ble_eq_true rfl, Nat.zero_le _, Nat.zero_le _⟩ rfl d_Model_stoneAt_97) (fun H locs hI => ?_)
  obtain rfl := zs1 hm
  exact z_vret X hI d_Model_stoneAt_100
set_option maxHeartbeats 4000000 in
set_option maxRecDepth 100000 in
theorem r_Model_stoneAt_33 {p : Program} {l : Launch} {e : Env} {s : State} {m : MethodId} {args : Array Value} {below : List Frame} {meth : Method} {c : Code} {G : zG} {K : Nat} (X : zX p s m args meth c "AllHomeModel" prog_9_method_30_code 5 none G (zA G K)) {h' : zH} (a0 : Nat) (y0 : Int32) (h : zH) (hm : g_Model_stoneAt_33 a0 y0 h = some h') {H : Heap} {locs : List Loc} {ls : Array Slot} (hI : zI G K s (zA G K) H locs h) (hl : lv_has ls 5 [(0, .ref (G.1 a0))]) : W p l e (zR 2) s m args below meth c H locs 0 0 (MQ below (zQv G K h') args s 0 0 (zA G K)) (F0 m 33 ls [.int y0]) := by
  obtain ⟨hx, hb, hml, hown, hts, hr, hlocks, hK, hST, hNs⟩ := id X
  unfold g_Model_stoneAt_33 at hm
  refine lv_istore (lv' := [(4, .int y0), (0, .ref (G.1 a0))]) hx hb d_Model_stoneAt_33 hl (by decide) rfl (fun ls hl => ?_)
  refine lv_aload_n hx hb d_Model_stoneAt_35 rfl (lv_at hl 1 rfl) ?_
  obtain ⟨v36, hv, hm⟩ := zbd hm
  refine z_getR X hI F_Model_22 hv d_Model_stoneAt_36 ?_
  refine lv_bipush (v := (nI 87)) hx hb d_Model_stoneAt_39 (by decide) ?_
  refine lv_iload hx hb d_Model_stoneAt_41 (lv_at hl 0 rfl) ?_
  refine lv_if_eq (tgt := 50) hx hb d_Model_stoneAt_43 (by decide) (fun hc43 => ?_) (fun hc43 => ?_)
  · replace hm := zif_t hc43 hm
    refine lv_aload_n hx hb d_Model_stoneAt_50 rfl (lv_at hl 1 rfl) ?_
    obtain ⟨v51, hv, hm⟩ := zbd hm
    refine z_getR X hI F_Model_22 hv d_Model_stoneAt_51 ?_
    refine lv_bipush (v := (nI 87)) hx hb d_Model_stoneAt_54 (by decide) ?_
    obtain ⟨v56, hv, hm⟩ := zbd hm
    refine z_iald X hI hv d_Model_stoneAt_56 ?_
    obtain ⟨h57, hv, hm⟩ := zbd hm
    refine z_iast X hI hv d_Model_stoneAt_57 (fun H locs hI => ?_)
    obtain rfl := zs1 hm
    exact z_vret X hI d_Model_stoneAt_58
  · replace hm := zif_f hc43 hm
    refine lv_iconst (v := (nI 1)) hx hb d_Model_stoneAt_46 (by decide) ?_
    refine lv_goto (tgt := 57) hx hb d_Model_stoneAt_47 (by decide) ?_
    obtain ⟨h57, hv, hm⟩ := zbd hm
    refine z_iast X hI hv d_Model_stoneAt_57 (fun H locs hI => ?_)
    obtain rfl := zs1 hm
    exact z_vret X hI d_Model_stoneAt_58
set_option maxHeartbeats 4000000 in
set_option maxRecDepth 100000 in
theorem r_Model_stoneAt_0 {p : Program} {l : Launch} {e : Env} {s : State} {m : MethodId} {args : Array Value} {below : List Frame} {meth : Method} {c : Code} {G : zG} {K : Nat} (X : zX p s m args meth c "AllHomeModel" prog_9_method_30_code 5 none G (zA G K)) {h' : zH} (a0 : Nat) (x1 : Int32) (x2 : Int32) (x3 : Int32) (h : zH) (hm : m_Model_stoneAt a0 x1 x2 x3 h = some h') {H : Heap} {locs : List Loc} {ls : Array Slot} (hI : zI G K s (zA G K) H locs h) (hl : lv_has ls 5 [(0, .ref (G.1 a0)), (1, .int x1), (2, .int x2), (3, .int x3)]) : W p l e (zR 2) s m args below meth c H locs 0 0 (MQ below (zQv G K h') args s 0 0 (zA G K)) (F0 m 0 ls []) := by
  obtain ⟨hx, hb, hml, hown, hts, hr, hlocks, hK, hST, hNs⟩ := id X
  unfold m_Model_stoneAt at hm
  refine lv_iload_n hx hb d_Model_stoneAt_0 rfl (lv_at hl 1 rfl) ?_
  refine lv_if_ne (tgt := 59) hx hb d_Model_stoneAt_1 (by decide) (fun hc1 => ?_) (fun hc1 => ?_)
  · replace hm := zif_f hc1 hm
    refine lv_aload_n hx hb d_Model_stoneAt_59 rfl (lv_at hl 0 rfl) ?_
    refine lv_iload_n hx hb d_Model_stoneAt_60 rfl (lv_at hl 1 rfl) ?_
    refine lv_iconst (v := (nI 4)) hx hb d_Model_stoneAt_61 (by decide) ?_
    obtain ⟨v62, hv, hm⟩ := zbd hm
    obtain ⟨hq, hv⟩ := zcv_at hv
    refine z_ci hI (z_runV (As := [.int x1, .int (nI 4)]) (rest := []) X hI hl.1 (c_Model_of l G K a0 x1 (nI 4) h _ hv) C_Model_155 rfl hq (Nat.le_of_ble_eq_true rfl) ⟨Nat.le_of_ble_eq_true rfl, Nat.le_of_ble_eq_true rfl, Nat.zero_le _, Nat.zero_le _⟩ rfl d_Model_stoneAt_62) (fun H locs hI => ?_)
    refine lv_iconst (v := (nI 1)) hx hb d_Model_stoneAt_65 (by decide) ?_
    refine lv_icmp_ne (tgt := 73) hx hb d_Model_stoneAt_66 (by decide) (fun hc66 => ?_) (fun hc66 => ?_)
    · replace hm := zif_f hc66 hm
      refine lv_iload_n hx hb d_Model_stoneAt_73 rfl (lv_at hl 3 rfl) ?_
      exact r_Model_stoneAt_74 X a0 x1 x2 x3 h hm hI (lv_sub hl [0, 1, 2] rfl)
    · replace hm := zif_t hc66 hm
      refine lv_iconst (v := (nI 1)) hx hb d_Model_stoneAt_69 (by decide) ?_
      refine lv_goto (tgt := 74) hx hb d_Model_stoneAt_70 (by decide) ?_
      exact r_Model_stoneAt_74 X a0 x1 x2 (nI 1) h hm hI (lv_sub hl [0, 1, 2] rfl)
  · replace hm := zif_t hc1 hm
    refine lv_iload_n hx hb d_Model_stoneAt_4 rfl (lv_at hl 3 rfl) ?_
    refine lv_if_ne (tgt := 32) hx hb d_Model_stoneAt_5 (by decide) (fun hc5 => ?_) (fun hc5 => ?_)
    · replace hm := zif_f hc5 hm
      refine lv_iconst (v := (nI 0)) hx hb d_Model_stoneAt_32 (by decide) ?_
      exact r_Model_stoneAt_33 X a0 (nI 0) h hm hI (lv_sub hl [0] rfl)
    · replace hm := zif_t hc5 hm
      refine lv_aload_n hx hb d_Model_stoneAt_8 rfl (lv_at hl 0 rfl) ?_
      refine lv_iconst (v := (nI 0)) hx hb d_Model_stoneAt_9 (by decide) ?_
      refine lv_iconst (v := (nI 4)) hx hb d_Model_stoneAt_10 (by decide) ?_
      obtain ⟨v11, hv, hm⟩ := zbd hm
      obtain ⟨hq, hv⟩ := zcv_at hv
      refine z_ci hI (z_runV (As := [.int (nI 0), .int (nI 4)]) (rest := []) X hI hl.1 (c_Model_of l G K a0 (nI 0) (nI 4) h _ hv) C_Model_155 rfl hq (Nat.le_of_ble_eq_true rfl) ⟨Nat.le_of_ble_eq_true rfl, Nat.le_of_ble_eq_true rfl, Nat.zero_le _, Nat.zero_le _⟩ rfl d_Model_stoneAt_11) (fun H locs hI => ?_)
      refine lv_if_ne (tgt := 32) hx hb d_Model_stoneAt_14 (by decide) (fun hc14 => ?_) (fun hc14 => ?_)
      · replace hm := zif_f hc14 hm
        refine lv_iconst (v := (nI 0)) hx hb d_Model_stoneAt_32 (by decide) ?_
        exact r_Model_stoneAt_33 X a0 (nI 0) h hm hI (lv_sub hl [0] rfl)
      · replace hm := zif_t hc14 hm
        refine lv_iload_n hx hb d_Model_stoneAt_17 rfl (lv_at hl 2 rfl) ?_
        refine lv_aload_n hx hb d_Model_stoneAt_18 rfl (lv_at hl 0 rfl) ?_
        refine lv_iconst (v := (nI 0)) hx hb d_Model_stoneAt_19 (by decide) ?_
        refine lv_iconst (v := (nI 3)) hx hb d_Model_stoneAt_20 (by decide) ?_
        obtain ⟨v21, hv, hm⟩ := zbd hm
        obtain ⟨hq, hv⟩ := zcv_at hv
        refine z_ci hI (z_runV (As := [.int (nI 0), .int (nI 3)]) (rest := [.int x2]) X hI hl.1 (c_Model_of l G K a0 (nI 0) (nI 3) h _ hv) C_Model_155 rfl hq (Nat.le_of_ble_eq_true rfl) ⟨Nat.le_of_ble_eq_true rfl, Nat.le_of_ble_eq_true rfl, Nat.zero_le _, Nat.zero_le _⟩ rfl d_Model_stoneAt_21) (fun H locs hI => ?_)
        refine lv_iadd hx hb d_Model_stoneAt_24 ?_
        refine lv_if_ne (tgt := 32) hx hb d_Model_stoneAt_25 (by decide) (fun hc25 => ?_) (fun hc25 => ?_)
        · replace hm := zif_f hc25 hm
          refine lv_iconst (v := (nI 0)) hx hb d_Model_stoneAt_32 (by decide) ?_
          exact r_Model_stoneAt_33 X a0 (nI 0) h hm hI (lv_sub hl [0] rfl)
        · replace hm := zif_t hc25 hm
          refine lv_iconst (v := (nI 1)) hx hb d_Model_stoneAt_28 (by decide) ?_
          refine lv_goto (tgt := 33) hx hb d_Model_stoneAt_29 (by decide) ?_
          exact r_Model_stoneAt_33 X a0 (nI 1) h hm hI (lv_sub hl [0] rfl)
set_option maxHeartbeats 4000000 in
set_option maxRecDepth 100000 in
theorem c_Model_stoneAt (l : Launch) (G : zG) (K : Nat) (a0 : Nat) (x1 : Int32) (x2 : Int32) (x3 : Int32) (h : zH) (h' : zH) (hm : m_Model_stoneAt a0 x1 x2 x3 h = some h') : zMv l G K y_Model_stoneAt prog_9_method_30_code 5 2 [.ref (G.1 a0), .int x1, .int x2, .int x3] h h' := zMet (by decide +kernel) (Nat.le_of_ble_eq_true rfl) (fun p e s m below meth c ls X hI hl => r_Model_stoneAt_0 X a0 x1 x2 x3 h hm hI hl)
-- walk of AllHomeModel.sumsAt
theorem d_Model_sumsAt_0 : decode prog_9_method_31_code 0 = .ok (.iload_n 1, 1) := by decide +kernel
theorem d_Model_sumsAt_1 : decode prog_9_method_31_code 1 = .ok (.ifCond .le 41, 3) := by decide +kernel
theorem d_Model_sumsAt_4 : decode prog_9_method_31_code 4 = .ok (.aload_n 0, 1) := by decide +kernel
theorem d_Model_sumsAt_5 : decode prog_9_method_31_code 5 = .ok (.iload_n 1, 1) := by decide +kernel
theorem d_Model_sumsAt_6 : decode prog_9_method_31_code 6 = .ok (.iconst 1, 1) := by decide +kernel
theorem d_Model_sumsAt_7 : decode prog_9_method_31_code 7 = .ok (.iadd, 1) := by decide +kernel
theorem d_Model_sumsAt_8 : decode prog_9_method_31_code 8 = .ok (.aload_n 0, 1) := by decide +kernel
theorem d_Model_sumsAt_9 : decode prog_9_method_31_code 9 = .ok (.getfield 78, 3) := by decide +kernel
theorem d_Model_sumsAt_12 : decode prog_9_method_31_code 12 = .ok (.if_icmp .ge 9, 3) := by decide +kernel
theorem d_Model_sumsAt_15 : decode prog_9_method_31_code 15 = .ok (.iload_n 1, 1) := by decide +kernel
theorem d_Model_sumsAt_16 : decode prog_9_method_31_code 16 = .ok (.iconst 1, 1) := by decide +kernel
theorem d_Model_sumsAt_17 : decode prog_9_method_31_code 17 = .ok (.iadd, 1) := by decide +kernel
theorem d_Model_sumsAt_18 : decode prog_9_method_31_code 18 = .ok (.goto 4, 3) := by decide +kernel
theorem d_Model_sumsAt_21 : decode prog_9_method_31_code 21 = .ok (.iconst 0, 1) := by decide +kernel
theorem d_Model_sumsAt_22 : decode prog_9_method_31_code 22 = .ok (.iload_n 2, 1) := by decide +kernel
theorem d_Model_sumsAt_23 : decode prog_9_method_31_code 23 = .ok (.aload_n 0, 1) := by decide +kernel
theorem d_Model_sumsAt_24 : decode prog_9_method_31_code 24 = .ok (.iload_n 1, 1) := by decide +kernel
theorem d_Model_sumsAt_25 : decode prog_9_method_31_code 25 = .ok (.iconst 3, 1) := by decide +kernel
theorem d_Model_sumsAt_26 : decode prog_9_method_31_code 26 = .ok (.invokevirtual 155, 3) := by decide +kernel
theorem d_Model_sumsAt_29 : decode prog_9_method_31_code 29 = .ok (.iadd, 1) := by decide +kernel
theorem d_Model_sumsAt_30 : decode prog_9_method_31_code 30 = .ok (.iload_n 3, 1) := by decide +kernel
theorem d_Model_sumsAt_31 : decode prog_9_method_31_code 31 = .ok (.aload_n 0, 1) := by decide +kernel
theorem d_Model_sumsAt_32 : decode prog_9_method_31_code 32 = .ok (.iload_n 1, 1) := by decide +kernel
theorem d_Model_sumsAt_33 : decode prog_9_method_31_code 33 = .ok (.iconst 4, 1) := by decide +kernel
theorem d_Model_sumsAt_34 : decode prog_9_method_31_code 34 = .ok (.invokevirtual 155, 3) := by decide +kernel
theorem d_Model_sumsAt_37 : decode prog_9_method_31_code 37 = .ok (.iadd, 1) := by decide +kernel
theorem d_Model_sumsAt_38 : decode prog_9_method_31_code 38 = .ok (.invokevirtual 169, 3) := by decide +kernel
theorem d_Model_sumsAt_41 : decode prog_9_method_31_code 41 = .ok (.return_, 1) := by decide +kernel
theorem d_Model_sumsAt_42 : decode prog_9_method_31_code 42 = .ok (.aload_n 0, 1) := by decide +kernel
theorem d_Model_sumsAt_43 : decode prog_9_method_31_code 43 = .ok (.getfield 22, 3) := by decide +kernel
theorem d_Model_sumsAt_46 : decode prog_9_method_31_code 46 = .ok (.bipush 88, 2) := by decide +kernel
theorem d_Model_sumsAt_48 : decode prog_9_method_31_code 48 = .ok (.iaload, 1) := by decide +kernel
theorem d_Model_sumsAt_49 : decode prog_9_method_31_code 49 = .ok (.iconst 1, 1) := by decide +kernel
theorem d_Model_sumsAt_50 : decode prog_9_method_31_code 50 = .ok (.if_icmp .ne 29, 3) := by decide +kernel
theorem d_Model_sumsAt_53 : decode prog_9_method_31_code 53 = .ok (.aload_n 0, 1) := by decide +kernel
theorem d_Model_sumsAt_54 : decode prog_9_method_31_code 54 = .ok (.getfield 22, 3) := by decide +kernel
theorem d_Model_sumsAt_57 : decode prog_9_method_31_code 57 = .ok (.bipush 89, 2) := by decide +kernel
theorem d_Model_sumsAt_59 : decode prog_9_method_31_code 59 = .ok (.iaload, 1) := by decide +kernel
theorem d_Model_sumsAt_60 : decode prog_9_method_31_code 60 = .ok (.iload_n 2, 1) := by decide +kernel
theorem d_Model_sumsAt_61 : decode prog_9_method_31_code 61 = .ok (.if_icmp .ne 18, 3) := by decide +kernel
theorem d_Model_sumsAt_64 : decode prog_9_method_31_code 64 = .ok (.aload_n 0, 1) := by decide +kernel
theorem d_Model_sumsAt_65 : decode prog_9_method_31_code 65 = .ok (.getfield 22, 3) := by decide +kernel
theorem d_Model_sumsAt_68 : decode prog_9_method_31_code 68 = .ok (.bipush 90, 2) := by decide +kernel
theorem d_Model_sumsAt_70 : decode prog_9_method_31_code 70 = .ok (.iaload, 1) := by decide +kernel
theorem d_Model_sumsAt_71 : decode prog_9_method_31_code 71 = .ok (.iload_n 3, 1) := by decide +kernel
theorem d_Model_sumsAt_72 : decode prog_9_method_31_code 72 = .ok (.if_icmp .ne 7, 3) := by decide +kernel
theorem d_Model_sumsAt_75 : decode prog_9_method_31_code 75 = .ok (.iconst 1, 1) := by decide +kernel
theorem d_Model_sumsAt_76 : decode prog_9_method_31_code 76 = .ok (.goto 4, 3) := by decide +kernel
theorem d_Model_sumsAt_79 : decode prog_9_method_31_code 79 = .ok (.iconst 0, 1) := by decide +kernel
theorem d_Model_sumsAt_80 : decode prog_9_method_31_code 80 = .ok (.istore 4, 2) := by decide +kernel
theorem d_Model_sumsAt_82 : decode prog_9_method_31_code 82 = .ok (.iload_n 2, 1) := by decide +kernel
theorem d_Model_sumsAt_83 : decode prog_9_method_31_code 83 = .ok (.iload_n 3, 1) := by decide +kernel
theorem d_Model_sumsAt_84 : decode prog_9_method_31_code 84 = .ok (.if_icmp .ne 21, 3) := by decide +kernel
theorem d_Model_sumsAt_87 : decode prog_9_method_31_code 87 = .ok (.aload_n 0, 1) := by decide +kernel
theorem d_Model_sumsAt_88 : decode prog_9_method_31_code 88 = .ok (.getfield 134, 3) := by decide +kernel
theorem d_Model_sumsAt_91 : decode prog_9_method_31_code 91 = .ok (.bipush 8, 2) := by decide +kernel
theorem d_Model_sumsAt_93 : decode prog_9_method_31_code 93 = .ok (.if_icmp .eq 8, 3) := by decide +kernel
theorem d_Model_sumsAt_96 : decode prog_9_method_31_code 96 = .ok (.iload 4, 2) := by decide +kernel
theorem d_Model_sumsAt_98 : decode prog_9_method_31_code 98 = .ok (.ifCond .eq 7, 3) := by decide +kernel
theorem d_Model_sumsAt_101 : decode prog_9_method_31_code 101 = .ok (.iconst 1, 1) := by decide +kernel
theorem d_Model_sumsAt_102 : decode prog_9_method_31_code 102 = .ok (.goto 4, 3) := by decide +kernel
theorem d_Model_sumsAt_105 : decode prog_9_method_31_code 105 = .ok (.iconst 0, 1) := by decide +kernel
theorem d_Model_sumsAt_106 : decode prog_9_method_31_code 106 = .ok (.istore 5, 2) := by decide +kernel
theorem d_Model_sumsAt_108 : decode prog_9_method_31_code 108 = .ok (.iload 5, 2) := by decide +kernel
theorem d_Model_sumsAt_110 : decode prog_9_method_31_code 110 = .ok (.ifCond .eq 14, 3) := by decide +kernel
theorem d_Model_sumsAt_113 : decode prog_9_method_31_code 113 = .ok (.aload_n 0, 1) := by decide +kernel
theorem d_Model_sumsAt_114 : decode prog_9_method_31_code 114 = .ok (.getfield 22, 3) := by decide +kernel
theorem d_Model_sumsAt_117 : decode prog_9_method_31_code 117 = .ok (.bipush 87, 2) := by decide +kernel
theorem d_Model_sumsAt_119 : decode prog_9_method_31_code 119 = .ok (.iconst 1, 1) := by decide +kernel
theorem d_Model_sumsAt_120 : decode prog_9_method_31_code 120 = .ok (.iastore, 1) := by decide +kernel
theorem d_Model_sumsAt_121 : decode prog_9_method_31_code 121 = .ok (.goto 27, 3) := by decide +kernel
theorem d_Model_sumsAt_124 : decode prog_9_method_31_code 124 = .ok (.aload_n 0, 1) := by decide +kernel
theorem d_Model_sumsAt_125 : decode prog_9_method_31_code 125 = .ok (.getfield 22, 3) := by decide +kernel
theorem d_Model_sumsAt_128 : decode prog_9_method_31_code 128 = .ok (.bipush 88, 2) := by decide +kernel
theorem d_Model_sumsAt_130 : decode prog_9_method_31_code 130 = .ok (.iconst 1, 1) := by decide +kernel
theorem d_Model_sumsAt_131 : decode prog_9_method_31_code 131 = .ok (.iastore, 1) := by decide +kernel
theorem d_Model_sumsAt_132 : decode prog_9_method_31_code 132 = .ok (.aload_n 0, 1) := by decide +kernel
theorem d_Model_sumsAt_133 : decode prog_9_method_31_code 133 = .ok (.getfield 22, 3) := by decide +kernel
theorem d_Model_sumsAt_136 : decode prog_9_method_31_code 136 = .ok (.bipush 89, 2) := by decide +kernel
theorem d_Model_sumsAt_138 : decode prog_9_method_31_code 138 = .ok (.iload_n 2, 1) := by decide +kernel
theorem d_Model_sumsAt_139 : decode prog_9_method_31_code 139 = .ok (.iastore, 1) := by decide +kernel
theorem d_Model_sumsAt_140 : decode prog_9_method_31_code 140 = .ok (.aload_n 0, 1) := by decide +kernel
theorem d_Model_sumsAt_141 : decode prog_9_method_31_code 141 = .ok (.getfield 22, 3) := by decide +kernel
theorem d_Model_sumsAt_144 : decode prog_9_method_31_code 144 = .ok (.bipush 90, 2) := by decide +kernel
theorem d_Model_sumsAt_146 : decode prog_9_method_31_code 146 = .ok (.iload_n 3, 1) := by decide +kernel
theorem d_Model_sumsAt_147 : decode prog_9_method_31_code 147 = .ok (.iastore, 1) := by decide +kernel
theorem d_Model_sumsAt_148 : decode prog_9_method_31_code 148 = .ok (.return_, 1) := by decide +kernel
set_option maxHeartbeats 4000000 in
set_option maxRecDepth 100000 in
theorem r_Model_sumsAt_106 {p : Program} {l : Launch} {e : Env} {s : State} {m : MethodId} {args : Array Value} {below : List Frame} {meth : Method} {c : Code} {G : zG} {K : Nat} (X : zX p s m args meth c "AllHomeModel" prog_9_method_31_code 6 none G (zA G K)) {h' : zH} (a0 : Nat) (x2 : Int32) (x3 : Int32) (y0 : Int32) (h : zH) (hm : g_Model_sumsAt_106 a0 x2 x3 y0 h = some h') {H : Heap} {locs : List Loc} {ls : Array Slot} (hI : zI G K s (zA G K) H locs h) (hl : lv_has ls 6 [(0, .ref (G.1 a0)), (2, .int x2), (3, .int x3)]) : W p l e (zR 2) s m args below meth c H locs 0 0 (MQ below (zQv G K h') args s 0 0 (zA G K)) (F0 m 106 ls [.int y0]) := by
  obtain ⟨hx, hb, hml, hown, hts, hr, hlocks, hK, hST, hNs⟩ := id X
  unfold g_Model_sumsAt_106 at hm
  refine lv_istore (lv' := [(5, .int y0), (0, .ref (G.1 a0)), (2, .int x2), (3, .int x3)]) hx hb d_Model_sumsAt_106 hl (by decide) rfl (fun ls hl => ?_)
  refine lv_iload hx hb d_Model_sumsAt_108 (lv_at hl 0 rfl) ?_
  refine lv_if_eq (tgt := 124) hx hb d_Model_sumsAt_110 (by decide) (fun hc110 => ?_) (fun hc110 => ?_)
  · replace hm := zif_t hc110 hm
    refine lv_aload_n hx hb d_Model_sumsAt_124 rfl (lv_at hl 1 rfl) ?_
    obtain ⟨v125, hv, hm⟩ := zbd hm
    refine z_getR X hI F_Model_22 hv d_Model_sumsAt_125 ?_
    refine lv_bipush (v := (nI 88)) hx hb d_Model_sumsAt_128 (by decide) ?_
    refine lv_iconst (v := (nI 1)) hx hb d_Model_sumsAt_130 (by decide) ?_
    obtain ⟨h131, hv, hm⟩ := zbd hm
    refine z_iast X hI hv d_Model_sumsAt_131 (fun H locs hI => ?_)
    refine lv_aload_n hx hb d_Model_sumsAt_132 rfl (lv_at hl 1 rfl) ?_
    obtain ⟨v133, hv, hm⟩ := zbd hm
    refine z_getR X hI F_Model_22 hv d_Model_sumsAt_133 ?_
    refine lv_bipush (v := (nI 89)) hx hb d_Model_sumsAt_136 (by decide) ?_
    refine lv_iload_n hx hb d_Model_sumsAt_138 rfl (lv_at hl 2 rfl) ?_
    obtain ⟨h139, hv, hm⟩ := zbd hm
    refine z_iast X hI hv d_Model_sumsAt_139 (fun H locs hI => ?_)
    refine lv_aload_n hx hb d_Model_sumsAt_140 rfl (lv_at hl 1 rfl) ?_
    obtain ⟨v141, hv, hm⟩ := zbd hm
    refine z_getR X hI F_Model_22 hv d_Model_sumsAt_141 ?_
    refine lv_bipush (v := (nI 90)) hx hb d_Model_sumsAt_144 (by decide) ?_
    refine lv_iload_n hx hb d_Model_sumsAt_146 rfl (lv_at hl 3 rfl) ?_
    obtain ⟨h147, hv, hm⟩ := zbd hm
    refine z_iast X hI hv d_Model_sumsAt_147 (fun H locs hI => ?_)
    obtain rfl := zs1 hm
    exact z_vret X hI d_Model_sumsAt_148
  · replace hm := zif_f hc110 hm
    refine lv_aload_n hx hb d_Model_sumsAt_113 rfl (lv_at hl 1 rfl) ?_
    obtain ⟨v114, hv, hm⟩ := zbd hm
    refine z_getR X hI F_Model_22 hv d_Model_sumsAt_114 ?_
    refine lv_bipush (v := (nI 87)) hx hb d_Model_sumsAt_117 (by decide) ?_
    refine lv_iconst (v := (nI 1)) hx hb d_Model_sumsAt_119 (by decide) ?_
    obtain ⟨h120, hv, hm⟩ := zbd hm
    refine z_iast X hI hv d_Model_sumsAt_120 (fun H locs hI => ?_)
    refine lv_goto (tgt := 148) hx hb d_Model_sumsAt_121 (by decide) ?_
    obtain rfl := zs1 hm
    exact z_vret X hI d_Model_sumsAt_148
set_option maxHeartbeats 4000000 in
set_option maxRecDepth 100000 in
theorem r_Model_sumsAt_80 {p : Program} {l : Launch} {e : Env} {s : State} {m : MethodId} {args : Array Value} {below : List Frame} {meth : Method} {c : Code} {G : zG} {K : Nat} (X : zX p s m args meth c "AllHomeModel" prog_9_method_31_code 6 none G (zA G K)) {h' : zH} (a0 : Nat) (x2 : Int32) (x3 : Int32) (y0 : Int32) (h : zH) (hm : g_Model_sumsAt_80 a0 x2 x3 y0 h = some h') {H : Heap} {locs : List Loc} {ls : Array Slot} (hI : zI G K s (zA G K) H locs h) (hl : lv_has ls 6 [(0, .ref (G.1 a0)), (2, .int x2), (3, .int x3)]) : W p l e (zR 2) s m args below meth c H locs 0 0 (MQ below (zQv G K h') args s 0 0 (zA G K)) (F0 m 80 ls [.int y0]) := by
  obtain ⟨hx, hb, hml, hown, hts, hr, hlocks, hK, hST, hNs⟩ := id X
  unfold g_Model_sumsAt_80 at hm
  refine lv_istore (lv' := [(4, .int y0), (0, .ref (G.1 a0)), (2, .int x2), (3, .int x3)]) hx hb d_Model_sumsAt_80 hl (by decide) rfl (fun ls hl => ?_)
  refine lv_iload_n hx hb d_Model_sumsAt_82 rfl (lv_at hl 2 rfl) ?_
  refine lv_iload_n hx hb d_Model_sumsAt_83 rfl (lv_at hl 3 rfl) ?_
  refine lv_icmp_ne (tgt := 105) hx hb d_Model_sumsAt_84 (by decide) (fun hc84 => ?_) (fun hc84 => ?_)
  · replace hm := zif_f hc84 hm
    refine lv_iconst (v := (nI 0)) hx hb d_Model_sumsAt_105 (by decide) ?_
    exact r_Model_sumsAt_106 X a0 x2 x3 (nI 0) h hm hI (lv_sub hl [1, 2, 3] rfl)
  · replace hm := zif_t hc84 hm
    refine lv_aload_n hx hb d_Model_sumsAt_87 rfl (lv_at hl 1 rfl) ?_
    obtain ⟨v88, hv, hm⟩ := zbd hm
    refine z_getI X hI F_Model_134 hv d_Model_sumsAt_88 ?_
    refine lv_bipush (v := (nI 8)) hx hb d_Model_sumsAt_91 (by decide) ?_
    refine lv_icmp_eq (tgt := 101) hx hb d_Model_sumsAt_93 (by decide) (fun hc93 => ?_) (fun hc93 => ?_)
    · replace hm := zif_t hc93 hm
      refine lv_iconst (v := (nI 1)) hx hb d_Model_sumsAt_101 (by decide) ?_
      refine lv_goto (tgt := 106) hx hb d_Model_sumsAt_102 (by decide) ?_
      exact r_Model_sumsAt_106 X a0 x2 x3 (nI 1) h hm hI (lv_sub hl [1, 2, 3] rfl)
    · replace hm := zif_f hc93 hm
      refine lv_iload hx hb d_Model_sumsAt_96 (lv_at hl 0 rfl) ?_
      refine lv_if_eq (tgt := 105) hx hb d_Model_sumsAt_98 (by decide) (fun hc98 => ?_) (fun hc98 => ?_)
      · replace hm := zif_t hc98 hm
        refine lv_iconst (v := (nI 0)) hx hb d_Model_sumsAt_105 (by decide) ?_
        exact r_Model_sumsAt_106 X a0 x2 x3 (nI 0) h hm hI (lv_sub hl [1, 2, 3] rfl)
      · replace hm := zif_f hc98 hm
        refine lv_iconst (v := (nI 1)) hx hb d_Model_sumsAt_101 (by decide) ?_
        refine lv_goto (tgt := 106) hx hb d_Model_sumsAt_102 (by decide) ?_
        exact r_Model_sumsAt_106 X a0 x2 x3 (nI 1) h hm hI (lv_sub hl [1, 2, 3] rfl)
set_option maxHeartbeats 4000000 in
set_option maxRecDepth 100000 in
theorem r_Model_sumsAt_22 {p : Program} {l : Launch} {e : Env} {s : State} {m : MethodId} {args : Array Value} {below : List Frame} {meth : Method} {c : Code} {G : zG} {K : Nat} (X : zX p s m args meth c "AllHomeModel" prog_9_method_31_code 6 none G (zA G K)) {h' : zH} (a0 : Nat) (x1 : Int32) (x2 : Int32) (x3 : Int32) (c0 : Nat) (y1 : Int32) (h : zH) (hm : g_Model_sumsAt_22 a0 x1 x2 x3 c0 y1 h = some h') {H : Heap} {locs : List Loc} {ls : Array Slot} (hI : zI G K s (zA G K) H locs h) (hl : lv_has ls 6 [(0, .ref (G.1 a0)), (1, .int x1), (2, .int x2), (3, .int x3)]) : W p l e (zR 2) s m args below meth c H locs 0 0 (MQ below (zQv G K h') args s 0 0 (zA G K)) (F0 m 22 ls [.int y1, .ref (G.1 c0)]) := by
  obtain ⟨hx, hb, hml, hown, hts, hr, hlocks, hK, hST, hNs⟩ := id X
  unfold g_Model_sumsAt_22 at hm
  refine lv_iload_n hx hb d_Model_sumsAt_22 rfl (lv_at hl 2 rfl) ?_
  refine lv_aload_n hx hb d_Model_sumsAt_23 rfl (lv_at hl 0 rfl) ?_
  refine lv_iload_n hx hb d_Model_sumsAt_24 rfl (lv_at hl 1 rfl) ?_
  refine lv_iconst (v := (nI 3)) hx hb d_Model_sumsAt_25 (by decide) ?_
  obtain ⟨v26, hv, hm⟩ := zbd hm
  obtain ⟨hq, hv⟩ := zcv_at hv
  refine z_ci hI (z_runV (As := [.int x1, .int (nI 3)]) (rest := [.int x2, .int y1, .ref (G.1 c0)]) X hI hl.1 (c_Model_of l G K a0 x1 (nI 3) h _ hv) C_Model_155 rfl hq (Nat.le_of_ble_eq_true rfl) ⟨Nat.le_of_ble_eq_true rfl, Nat.le_of_ble_eq_true rfl, Nat.zero_le _, Nat.zero_le _⟩ rfl d_Model_sumsAt_26) (fun H locs hI => ?_)
  refine lv_iadd hx hb d_Model_sumsAt_29 ?_
  refine lv_iload_n hx hb d_Model_sumsAt_30 rfl (lv_at hl 3 rfl) ?_
  refine lv_aload_n hx hb d_Model_sumsAt_31 rfl (lv_at hl 0 rfl) ?_
  refine lv_iload_n hx hb d_Model_sumsAt_32 rfl (lv_at hl 1 rfl) ?_
  refine lv_iconst (v := (nI 4)) hx hb d_Model_sumsAt_33 (by decide) ?_
  obtain ⟨v34, hv, hm⟩ := zbd hm
  obtain ⟨hq, hv⟩ := zcv_at hv
  refine z_ci hI (z_runV (As := [.int x1, .int (nI 4)]) (rest := [.int x3, .int (x2 + v26), .int y1, .ref (G.1 c0)]) X hI hl.1 (c_Model_of l G K a0 x1 (nI 4) h _ hv) C_Model_155 rfl hq (Nat.le_of_ble_eq_true rfl) ⟨Nat.le_of_ble_eq_true rfl, Nat.le_of_ble_eq_true rfl, Nat.zero_le _, Nat.zero_le _⟩ rfl d_Model_sumsAt_34) (fun H locs hI => ?_)
  refine lv_iadd hx hb d_Model_sumsAt_37 ?_
  obtain ⟨h38, hv, hm⟩ := zbd hm
  obtain ⟨hq, hv⟩ := zcv_at hv
  refine z_cv hI (z_runV (As := [.int y1, .int (x2 + v26), .int (x3 + v34)]) (rest := []) X hI hl.1 (c_Model_sendNote l G K c0 y1 (x2 + v26) (x3 + v34) h _ hv) C_Model_169 rfl hq (Nat.le_of_ble_eq_true rfl) ⟨Nat.le_of_ble_eq_true rfl, Nat.le_of_ble_eq_true rfl, Nat.zero_le _, Nat.zero_le _⟩ rfl d_Model_sumsAt_38) (fun H locs hI => ?_)
  obtain rfl := zs1 hm
  exact z_vret X hI d_Model_sumsAt_41
set_option maxHeartbeats 4000000 in
set_option maxRecDepth 100000 in
theorem r_Model_sumsAt_0 {p : Program} {l : Launch} {e : Env} {s : State} {m : MethodId} {args : Array Value} {below : List Frame} {meth : Method} {c : Code} {G : zG} {K : Nat} (X : zX p s m args meth c "AllHomeModel" prog_9_method_31_code 6 none G (zA G K)) {h' : zH} (a0 : Nat) (x1 : Int32) (x2 : Int32) (x3 : Int32) (h : zH) (hm : m_Model_sumsAt a0 x1 x2 x3 h = some h') {H : Heap} {locs : List Loc} {ls : Array Slot} (hI : zI G K s (zA G K) H locs h) (hl : lv_has ls 6 [(0, .ref (G.1 a0)), (1, .int x1), (2, .int x2), (3, .int x3)]) : W p l e (zR 2) s m args below meth c H locs 0 0 (MQ below (zQv G K h') args s 0 0 (zA G K)) (F0 m 0 ls []) := by
  obtain ⟨hx, hb, hml, hown, hts, hr, hlocks, hK, hST, hNs⟩ := id X
  unfold m_Model_sumsAt at hm
  refine lv_iload_n hx hb d_Model_sumsAt_0 rfl (lv_at hl 1 rfl) ?_
  refine lv_if_le (tgt := 42) hx hb d_Model_sumsAt_1 (by decide) (fun hc1 => ?_) (fun hc1 => ?_)
  · replace hm := zif_t hc1 hm
    refine lv_aload_n hx hb d_Model_sumsAt_42 rfl (lv_at hl 0 rfl) ?_
    obtain ⟨v43, hv, hm⟩ := zbd hm
    refine z_getR X hI F_Model_22 hv d_Model_sumsAt_43 ?_
    refine lv_bipush (v := (nI 88)) hx hb d_Model_sumsAt_46 (by decide) ?_
    obtain ⟨v48, hv, hm⟩ := zbd hm
    refine z_iald X hI hv d_Model_sumsAt_48 ?_
    refine lv_iconst (v := (nI 1)) hx hb d_Model_sumsAt_49 (by decide) ?_
    refine lv_icmp_ne (tgt := 79) hx hb d_Model_sumsAt_50 (by decide) (fun hc50 => ?_) (fun hc50 => ?_)
    · replace hm := zif_f hc50 hm
      refine lv_iconst (v := (nI 0)) hx hb d_Model_sumsAt_79 (by decide) ?_
      exact r_Model_sumsAt_80 X a0 x2 x3 (nI 0) h hm hI (lv_sub hl [0, 2, 3] rfl)
    · replace hm := zif_t hc50 hm
      refine lv_aload_n hx hb d_Model_sumsAt_53 rfl (lv_at hl 0 rfl) ?_
      obtain ⟨v54, hv, hm⟩ := zbd hm
      refine z_getR X hI F_Model_22 hv d_Model_sumsAt_54 ?_
      refine lv_bipush (v := (nI 89)) hx hb d_Model_sumsAt_57 (by decide) ?_
      obtain ⟨v59, hv, hm⟩ := zbd hm
      refine z_iald X hI hv d_Model_sumsAt_59 ?_
      refine lv_iload_n hx hb d_Model_sumsAt_60 rfl (lv_at hl 2 rfl) ?_
      refine lv_icmp_ne (tgt := 79) hx hb d_Model_sumsAt_61 (by decide) (fun hc61 => ?_) (fun hc61 => ?_)
      · replace hm := zif_f hc61 hm
        refine lv_iconst (v := (nI 0)) hx hb d_Model_sumsAt_79 (by decide) ?_
        exact r_Model_sumsAt_80 X a0 x2 x3 (nI 0) h hm hI (lv_sub hl [0, 2, 3] rfl)
      · replace hm := zif_t hc61 hm
        refine lv_aload_n hx hb d_Model_sumsAt_64 rfl (lv_at hl 0 rfl) ?_
        obtain ⟨v65, hv, hm⟩ := zbd hm
        refine z_getR X hI F_Model_22 hv d_Model_sumsAt_65 ?_
        refine lv_bipush (v := (nI 90)) hx hb d_Model_sumsAt_68 (by decide) ?_
        obtain ⟨v70, hv, hm⟩ := zbd hm
        refine z_iald X hI hv d_Model_sumsAt_70 ?_
        refine lv_iload_n hx hb d_Model_sumsAt_71 rfl (lv_at hl 3 rfl) ?_
        refine lv_icmp_ne (tgt := 79) hx hb d_Model_sumsAt_72 (by decide) (fun hc72 => ?_) (fun hc72 => ?_)
        · replace hm := zif_f hc72 hm
          refine lv_iconst (v := (nI 0)) hx hb d_Model_sumsAt_79 (by decide) ?_
          exact r_Model_sumsAt_80 X a0 x2 x3 (nI 0) h hm hI (lv_sub hl [0, 2, 3] rfl)
        · replace hm := zif_t hc72 hm
          refine lv_iconst (v := (nI 1)) hx hb d_Model_sumsAt_75 (by decide) ?_
          refine lv_goto (tgt := 80) hx hb d_Model_sumsAt_76 (by decide) ?_
          exact r_Model_sumsAt_80 X a0 x2 x3 (nI 1) h hm hI (lv_sub hl [0, 2, 3] rfl)
  · replace hm := zif_f hc1 hm
    refine lv_aload_n hx hb d_Model_sumsAt_4 rfl (lv_at hl 0 rfl) ?_
    refine lv_iload_n hx hb d_Model_sumsAt_5 rfl (lv_at hl 1 rfl) ?_
    refine lv_iconst (v := (nI 1)) hx hb d_Model_sumsAt_6 (by decide) ?_
    refine lv_iadd hx hb d_Model_sumsAt_7 ?_
    refine lv_aload_n hx hb d_Model_sumsAt_8 rfl (lv_at hl 0 rfl) ?_
    obtain ⟨v9, hv, hm⟩ := zbd hm
    refine z_getI X hI F_Model_78 hv d_Model_sumsAt_9 ?_
    refine lv_icmp_ge (tgt := 21) hx hb d_Model_sumsAt_12 (by decide) (fun hc12 => ?_) (fun hc12 => ?_)
    · replace hm := zif_t hc12 hm
      refine lv_iconst (v := (nI 0)) hx hb d_Model_sumsAt_21 (by decide) ?_
      exact r_Model_sumsAt_22 X a0 x1 x2 x3 a0 (nI 0) h hm hI (lv_sub hl [0, 1, 2, 3] rfl)
    · replace hm := zif_f hc12 hm
      refine lv_iload_n hx hb d_Model_sumsAt_15 rfl (lv_at hl 1 rfl) ?_
      refine lv_iconst (v := (nI 1)) hx hb d_Model_sumsAt_16 (by decide) ?_
      refine lv_iadd hx hb d_Model_sumsAt_17 ?_
      refine lv_goto (tgt := 22) hx hb d_Model_sumsAt_18 (by decide) ?_
      exact r_Model_sumsAt_22 X a0 x1 x2 x3 a0 (x1 + (nI 1)) h hm hI (lv_sub hl [0, 1, 2, 3] rfl)
set_option maxHeartbeats 4000000 in
set_option maxRecDepth 100000 in
theorem c_Model_sumsAt (l : Launch) (G : zG) (K : Nat) (a0 : Nat) (x1 : Int32) (x2 : Int32) (x3 : Int32) (h : zH) (h' : zH) (hm : m_Model_sumsAt a0 x1 x2 x3 h = some h') : zMv l G K y_Model_sumsAt prog_9_method_31_code 6 2 [.ref (G.1 a0), .int x1, .int x2, .int x3] h h' := zMet (by decide +kernel) (Nat.le_of_ble_eq_true rfl) (fun p e s m below meth c ls X hI hl => r_Model_sumsAt_0 X a0 x1 x2 x3 h hm hI hl)
-- walk of AllHomeModel.noteComes
theorem d_Model_noteComes_0 : decode prog_9_method_29_code 0 = .ok (.iload_n 1, 1) := by decide +kernel
theorem d_Model_noteComes_1 : decode prog_9_method_29_code 1 = .ok (.ifCond .lt 11, 3) := by decide +kernel
theorem d_Model_noteComes_4 : decode prog_9_method_29_code 4 = .ok (.iload_n 1, 1) := by decide +kernel
theorem d_Model_noteComes_5 : decode prog_9_method_29_code 5 = .ok (.aload_n 0, 1) := by decide +kernel
theorem d_Model_noteComes_6 : decode prog_9_method_29_code 6 = .ok (.invokevirtual 179, 3) := by decide +kernel
theorem d_Model_noteComes_9 : decode prog_9_method_29_code 9 = .ok (.if_icmp .lt 5, 3) := by decide +kernel
theorem d_Model_noteComes_12 : decode prog_9_method_29_code 12 = .ok (.iconst 0, 1) := by decide +kernel
theorem d_Model_noteComes_13 : decode prog_9_method_29_code 13 = .ok (.ireturn, 1) := by decide +kernel
theorem d_Model_noteComes_14 : decode prog_9_method_29_code 14 = .ok (.aload_n 0, 1) := by decide +kernel
theorem d_Model_noteComes_15 : decode prog_9_method_29_code 15 = .ok (.getfield 22, 3) := by decide +kernel
theorem d_Model_noteComes_18 : decode prog_9_method_29_code 18 = .ok (.bipush 62, 2) := by decide +kernel
theorem d_Model_noteComes_20 : decode prog_9_method_29_code 20 = .ok (.iconst 3, 1) := by decide +kernel
theorem d_Model_noteComes_21 : decode prog_9_method_29_code 21 = .ok (.iload_n 1, 1) := by decide +kernel
theorem d_Model_noteComes_22 : decode prog_9_method_29_code 22 = .ok (.imul, 1) := by decide +kernel
theorem d_Model_noteComes_23 : decode prog_9_method_29_code 23 = .ok (.iadd, 1) := by decide +kernel
theorem d_Model_noteComes_24 : decode prog_9_method_29_code 24 = .ok (.iaload, 1) := by decide +kernel
theorem d_Model_noteComes_25 : decode prog_9_method_29_code 25 = .ok (.istore_n 2, 1) := by decide +kernel
theorem d_Model_noteComes_26 : decode prog_9_method_29_code 26 = .ok (.aload_n 0, 1) := by decide +kernel
theorem d_Model_noteComes_27 : decode prog_9_method_29_code 27 = .ok (.getfield 22, 3) := by decide +kernel
theorem d_Model_noteComes_30 : decode prog_9_method_29_code 30 = .ok (.bipush 63, 2) := by decide +kernel
theorem d_Model_noteComes_32 : decode prog_9_method_29_code 32 = .ok (.iconst 3, 1) := by decide +kernel
theorem d_Model_noteComes_33 : decode prog_9_method_29_code 33 = .ok (.iload_n 1, 1) := by decide +kernel
theorem d_Model_noteComes_34 : decode prog_9_method_29_code 34 = .ok (.imul, 1) := by decide +kernel
theorem d_Model_noteComes_35 : decode prog_9_method_29_code 35 = .ok (.iadd, 1) := by decide +kernel
theorem d_Model_noteComes_36 : decode prog_9_method_29_code 36 = .ok (.iaload, 1) := by decide +kernel
theorem d_Model_noteComes_37 : decode prog_9_method_29_code 37 = .ok (.istore_n 3, 1) := by decide +kernel
theorem d_Model_noteComes_38 : decode prog_9_method_29_code 38 = .ok (.aload_n 0, 1) := by decide +kernel
theorem d_Model_noteComes_39 : decode prog_9_method_29_code 39 = .ok (.getfield 22, 3) := by decide +kernel
theorem d_Model_noteComes_42 : decode prog_9_method_29_code 42 = .ok (.bipush 64, 2) := by decide +kernel
theorem d_Model_noteComes_44 : decode prog_9_method_29_code 44 = .ok (.iconst 3, 1) := by decide +kernel
theorem d_Model_noteComes_45 : decode prog_9_method_29_code 45 = .ok (.iload_n 1, 1) := by decide +kernel
theorem d_Model_noteComes_46 : decode prog_9_method_29_code 46 = .ok (.imul, 1) := by decide +kernel
theorem d_Model_noteComes_47 : decode prog_9_method_29_code 47 = .ok (.iadd, 1) := by decide +kernel
theorem d_Model_noteComes_48 : decode prog_9_method_29_code 48 = .ok (.iaload, 1) := by decide +kernel
theorem d_Model_noteComes_49 : decode prog_9_method_29_code 49 = .ok (.istore 4, 2) := by decide +kernel
theorem d_Model_noteComes_51 : decode prog_9_method_29_code 51 = .ok (.aload_n 0, 1) := by decide +kernel
theorem d_Model_noteComes_52 : decode prog_9_method_29_code 52 = .ok (.getfield 134, 3) := by decide +kernel
theorem d_Model_noteComes_55 : decode prog_9_method_29_code 55 = .ok (.iconst 4, 1) := by decide +kernel
theorem d_Model_noteComes_56 : decode prog_9_method_29_code 56 = .ok (.invokestatic 159, 3) := by decide +kernel
theorem d_Model_noteComes_59 : decode prog_9_method_29_code 59 = .ok (.ifCond .eq 15, 3) := by decide +kernel
theorem d_Model_noteComes_62 : decode prog_9_method_29_code 62 = .ok (.aload_n 0, 1) := by decide +kernel
theorem d_Model_noteComes_63 : decode prog_9_method_29_code 63 = .ok (.iload_n 2, 1) := by decide +kernel
theorem d_Model_noteComes_64 : decode prog_9_method_29_code 64 = .ok (.iconst 0, 1) := by decide +kernel
theorem d_Model_noteComes_65 : decode prog_9_method_29_code 65 = .ok (.invokevirtual 155, 3) := by decide +kernel
theorem d_Model_noteComes_68 : decode prog_9_method_29_code 68 = .ok (.iconst 1, 1) := by decide +kernel
theorem d_Model_noteComes_69 : decode prog_9_method_29_code 69 = .ok (.if_icmp .ne 5, 3) := by decide +kernel
theorem d_Model_noteComes_72 : decode prog_9_method_29_code 72 = .ok (.iconst 0, 1) := by decide +kernel
theorem d_Model_noteComes_73 : decode prog_9_method_29_code 73 = .ok (.ireturn, 1) := by decide +kernel
theorem d_Model_noteComes_74 : decode prog_9_method_29_code 74 = .ok (.aload_n 0, 1) := by decide +kernel
theorem d_Model_noteComes_75 : decode prog_9_method_29_code 75 = .ok (.bipush 61, 2) := by decide +kernel
theorem d_Model_noteComes_77 : decode prog_9_method_29_code 77 = .ok (.iload_n 1, 1) := by decide +kernel
theorem d_Model_noteComes_78 : decode prog_9_method_29_code 78 = .ok (.invokevirtual 176, 3) := by decide +kernel
theorem d_Model_noteComes_81 : decode prog_9_method_29_code 81 = .ok (.aload_n 0, 1) := by decide +kernel
theorem d_Model_noteComes_82 : decode prog_9_method_29_code 82 = .ok (.getfield 134, 3) := by decide +kernel
theorem d_Model_noteComes_85 : decode prog_9_method_29_code 85 = .ok (.iconst 1, 1) := by decide +kernel
theorem d_Model_noteComes_86 : decode prog_9_method_29_code 86 = .ok (.if_icmp .ne 13, 3) := by decide +kernel
theorem d_Model_noteComes_89 : decode prog_9_method_29_code 89 = .ok (.aload_n 0, 1) := by decide +kernel
theorem d_Model_noteComes_90 : decode prog_9_method_29_code 90 = .ok (.iload_n 2, 1) := by decide +kernel
theorem d_Model_noteComes_91 : decode prog_9_method_29_code 91 = .ok (.iconst 3, 1) := by decide +kernel
theorem d_Model_noteComes_92 : decode prog_9_method_29_code 92 = .ok (.iload_n 3, 1) := by decide +kernel
theorem d_Model_noteComes_93 : decode prog_9_method_29_code 93 = .ok (.invokevirtual 151, 3) := by decide +kernel
theorem d_Model_noteComes_96 : decode prog_9_method_29_code 96 = .ok (.goto 65, 3) := by decide +kernel
theorem d_Model_noteComes_99 : decode prog_9_method_29_code 99 = .ok (.aload_n 0, 1) := by decide +kernel
theorem d_Model_noteComes_100 : decode prog_9_method_29_code 100 = .ok (.getfield 134, 3) := by decide +kernel
theorem d_Model_noteComes_103 : decode prog_9_method_29_code 103 = .ok (.iconst 2, 1) := by decide +kernel
theorem d_Model_noteComes_104 : decode prog_9_method_29_code 104 = .ok (.invokestatic 159, 3) := by decide +kernel
theorem d_Model_noteComes_107 : decode prog_9_method_29_code 107 = .ok (.ifCond .eq 13, 3) := by decide +kernel
theorem d_Model_noteComes_110 : decode prog_9_method_29_code 110 = .ok (.aload_n 0, 1) := by decide +kernel
theorem d_Model_noteComes_111 : decode prog_9_method_29_code 111 = .ok (.iload_n 2, 1) := by decide +kernel
theorem d_Model_noteComes_112 : decode prog_9_method_29_code 112 = .ok (.iconst 3, 1) := by decide +kernel
theorem d_Model_noteComes_113 : decode prog_9_method_29_code 113 = .ok (.iconst (-1), 1) := by decide +kernel
theorem d_Model_noteComes_114 : decode prog_9_method_29_code 114 = .ok (.invokevirtual 151, 3) := by decide +kernel
theorem d_Model_noteComes_117 : decode prog_9_method_29_code 117 = .ok (.goto 44, 3) := by decide +kernel
theorem d_Model_noteComes_120 : decode prog_9_method_29_code 120 = .ok (.aload_n 0, 1) := by decide +kernel
theorem d_Model_noteComes_121 : decode prog_9_method_29_code 121 = .ok (.getfield 134, 3) := by decide +kernel
theorem d_Model_noteComes_124 : decode prog_9_method_29_code 124 = .ok (.iconst 4, 1) := by decide +kernel
theorem d_Model_noteComes_125 : decode prog_9_method_29_code 125 = .ok (.invokestatic 159, 3) := by decide +kernel
theorem d_Model_noteComes_128 : decode prog_9_method_29_code 128 = .ok (.ifCond .eq 14, 3) := by decide +kernel
theorem d_Model_noteComes_131 : decode prog_9_method_29_code 131 = .ok (.aload_n 0, 1) := by decide +kernel
theorem d_Model_noteComes_132 : decode prog_9_method_29_code 132 = .ok (.iload_n 2, 1) := by decide +kernel
theorem d_Model_noteComes_133 : decode prog_9_method_29_code 133 = .ok (.iload_n 3, 1) := by decide +kernel
theorem d_Model_noteComes_134 : decode prog_9_method_29_code 134 = .ok (.iload 4, 2) := by decide +kernel
theorem d_Model_noteComes_136 : decode prog_9_method_29_code 136 = .ok (.invokevirtual 182, 3) := by decide +kernel
theorem d_Model_noteComes_139 : decode prog_9_method_29_code 139 = .ok (.goto 22, 3) := by decide +kernel
theorem d_Model_noteComes_142 : decode prog_9_method_29_code 142 = .ok (.aload_n 0, 1) := by decide +kernel
theorem d_Model_noteComes_143 : decode prog_9_method_29_code 143 = .ok (.getfield 134, 3) := by decide +kernel
theorem d_Model_noteComes_146 : decode prog_9_method_29_code 146 = .ok (.iconst 5, 1) := by decide +kernel
theorem d_Model_noteComes_147 : decode prog_9_method_29_code 147 = .ok (.invokestatic 159, 3) := by decide +kernel
theorem d_Model_noteComes_150 : decode prog_9_method_29_code 150 = .ok (.ifCond .eq 11, 3) := by decide +kernel
theorem d_Model_noteComes_153 : decode prog_9_method_29_code 153 = .ok (.aload_n 0, 1) := by decide +kernel
theorem d_Model_noteComes_154 : decode prog_9_method_29_code 154 = .ok (.iload_n 2, 1) := by decide +kernel
theorem d_Model_noteComes_155 : decode prog_9_method_29_code 155 = .ok (.iload_n 3, 1) := by decide +kernel
theorem d_Model_noteComes_156 : decode prog_9_method_29_code 156 = .ok (.iload 4, 2) := by decide +kernel
theorem d_Model_noteComes_158 : decode prog_9_method_29_code 158 = .ok (.invokevirtual 185, 3) := by decide +kernel
theorem d_Model_noteComes_161 : decode prog_9_method_29_code 161 = .ok (.iconst 1, 1) := by decide +kernel
theorem d_Model_noteComes_162 : decode prog_9_method_29_code 162 = .ok (.ireturn, 1) := by decide +kernel
set_option maxHeartbeats 4000000 in
set_option maxRecDepth 100000 in
theorem r_Model_noteComes_74 {p : Program} {l : Launch} {e : Env} {s : State} {m : MethodId} {args : Array Value} {below : List Frame} {meth : Method} {c : Code} {G : zG} {K : Nat} (X : zX p s m args meth c "AllHomeModel" prog_9_method_29_code 5 (some .boolean) G (zA G K)) {r : Int32} {h' : zH} (a0 : Nat) (x1 : Int32) (x2 : Int32) (x3 : Int32) (x4 : Int32) (h : zH) (hm : g_Model_noteComes_74 a0 x1 x2 x3 x4 h = some (r, h')) {H : Heap} {locs : List Loc} {ls : Array Slot} (hI : zI G K s (zA G K) H locs h) (hl : lv_has ls 5 [(0, .ref (G.1 a0)), (1, .int x1), (2, .int x2), (3, .int x3), (4, .int x4)]) : W p l e (zR 3) s m args below meth c H locs 0 0 (MQ below (zQi G K r h') args s 0 0 (zA G K)) (F0 m 74 ls []) := by
  obtain ⟨hx, hb, hml, hown, hts, hr, hlocks, hK, hST, hNs⟩ := id X
  unfold g_Model_noteComes_74 at hm
  refine lv_aload_n hx hb d_Model_noteComes_74 rfl (lv_at hl 0 rfl) ?_
  refine lv_bipush (v := (nI 61)) hx hb d_Model_noteComes_75 (by decide) ?_
  refine lv_iload_n hx hb d_Model_noteComes_77 rfl (lv_at hl 1 rfl) ?_
  obtain ⟨h78, hv, hm⟩ := zbd hm
  obtain ⟨hq, hv⟩ := zcv_at hv
  refine z_cv hI (z_runV (As := [.int (nI 61), .int x1]) (rest := []) X hI hl.1 (c_Model_takeOut l G K a0 (nI 61) x1 h _ hv) C_Model_176 rfl hq (Nat.le_of_ble_eq_true rfl) ⟨Nat.le_of_ble_eq_true rfl, Nat.le_of_ble_eq_true rfl, Nat.zero_le _, Nat.zero_le _⟩ rfl d_Model_noteComes_78) (fun H locs hI => ?_)
  refine lv_aload_n hx hb d_Model_noteComes_81 rfl (lv_at hl 0 rfl) ?_
  obtain ⟨v82, hv, hm⟩ := zbd hm
  refine z_getI X hI F_Model_134 hv d_Model_noteComes_82 ?_
  refine lv_iconst (v := (nI 1)) hx hb d_Model_noteComes_85 (by decide) ?_
  refine lv_icmp_ne (tgt := 99) hx hb d_Model_noteComes_86 (by decide) (fun hc86 => ?_) (fun hc86 => ?_)
  · replace hm := zif_f hc86 hm
    refine lv_aload_n hx hb d_Model_noteComes_99 rfl (lv_at hl 0 rfl) ?_
    obtain ⟨v100, hv, hm⟩ := zbd hm
    refine z_getI X hI F_Model_134 hv d_Model_noteComes_100 ?_
    refine lv_iconst (v := (nI 2)) hx hb d_Model_noteComes_103 (by decide) ?_
    obtain ⟨v104, hv, hm⟩ := zbd hm
    refine z_ci hI (z_runS (As := [.int v100, .int (nI 2)]) (rest := []) X hI hl.1 (c_Model_isUnder l G K v100 (nI 2) h78 _ hv) C_Model_159 rfl (Nat.le_of_ble_eq_true rfl) ⟨Nat.le_of_ble_eq_true rfl, Nat.le_of_ble_eq_true rfl, Nat.zero_le _, Nat.zero_le _⟩ rfl d_Model_noteComes_104) (fun H locs hI => ?_)
    refine lv_if_eq (tgt := 120) hx hb d_Model_noteComes_107 (by decide) (fun hc107 => ?_) (fun hc107 => ?_)
    · replace hm := zif_t hc107 hm
      refine lv_aload_n hx hb d_Model_noteComes_120 rfl (lv_at hl 0 rfl) ?_
      obtain ⟨v121, hv, hm⟩ := zbd hm
      refine z_getI X hI F_Model_134 hv d_Model_noteComes_121 ?_
      refine lv_iconst (v := (nI 4)) hx hb d_Model_noteComes_124 (by decide) ?_
      obtain ⟨v125, hv, hm⟩ := zbd hm
      refine z_ci hI (z_runS (As := [.int v121, .int (nI 4)]) (rest := []) X hI hl.1 (c_Model_isUnder l G K v121 (nI 4) h78 _ hv) C_Model_159 rfl (Nat.le_of_ble_eq_true rfl) ⟨Nat.le_of_ble_eq_true rfl, Nat.le_of_ble_eq_true rfl, Nat.zero_le _, Nat.zero_le _⟩ rfl d_Model_noteComes_125) (fun H locs hI => ?_)
      refine lv_if_eq (tgt := 142) hx hb d_Model_noteComes_128 (by decide) (fun hc128 => ?_) (fun hc128 => ?_)
      · replace hm := zif_t hc128 hm
        refine lv_aload_n hx hb d_Model_noteComes_142 rfl (lv_at hl 0 rfl) ?_
        obtain ⟨v143, hv, hm⟩ := zbd hm
        refine z_getI X hI F_Model_134 hv d_Model_noteComes_143 ?_
        refine lv_iconst (v := (nI 5)) hx hb d_Model_noteComes_146 (by decide) ?_
        obtain ⟨v147, hv, hm⟩ := zbd hm
        refine z_ci hI (z_runS (As := [.int v143, .int (nI 5)]) (rest := []) X hI hl.1 (c_Model_isUnder l G K v143 (nI 5) h78 _ hv) C_Model_159 rfl (Nat.le_of_ble_eq_true rfl) ⟨Nat.le_of_ble_eq_true rfl, Nat.le_of_ble_eq_true rfl, Nat.zero_le _, Nat.zero_le _⟩ rfl d_Model_noteComes_147) (fun H locs hI => ?_)
        refine lv_if_eq (tgt := 161) hx hb d_Model_noteComes_150 (by decide) (fun hc150 => ?_) (fun hc150 => ?_)
        · replace hm := zif_t hc150 hm
          refine lv_iconst (v := (nI 1)) hx hb d_Model_noteComes_161 (by decide) ?_
          obtain ⟨rfl, rfl⟩ := zs2 hm
          exact z_zret X hI (by decide) d_Model_noteComes_162
        · replace hm := zif_f hc150 hm
          refine lv_aload_n hx hb d_Model_noteComes_153 rfl (lv_at hl 0 rfl) ?_
          refine lv_iload_n hx hb d_Model_noteComes_154 rfl (lv_at hl 2 rfl) ?_
          refine lv_iload_n hx hb d_Model_noteComes_155 rfl (lv_at hl 3 rfl) ?_
          refine lv_iload hx hb d_Model_noteComes_156 (lv_at hl 4 rfl) ?_
          obtain ⟨h158, hv, hm⟩ := zbd hm
          obtain ⟨hq, hv⟩ := zcv_at hv
          refine z_cv hI (z_runV (As := [.int x2, .int x3, .int x4]) (rest := []) X hI hl.1 (c_Model_sumsAt l G K a0 x2 x3 x4 h78 _ hv) C_Model_185 rfl hq (Nat.le_of_ble_eq_true rfl) ⟨Nat.le_of_ble_eq_true rfl, Nat.le_of_ble_eq_true rfl, Nat.zero_le _, Nat.zero_le _⟩ rfl d_Model_noteComes_158) (fun H locs hI => ?_)
          refine lv_iconst (v := (nI 1)) hx hb d_Model_noteComes_161 (by decide) ?_
          obtain ⟨rfl, rfl⟩ := zs2 hm
          exact z_zret X hI (by decide) d_Model_noteComes_162
      · replace hm := zif_f hc128 hm
        refine lv_aload_n hx hb d_Model_noteComes_131 rfl (lv_at hl 0 rfl) ?_
        refine lv_iload_n hx hb d_Model_noteComes_132 rfl (lv_at hl 2 rfl) ?_
        refine lv_iload_n hx hb d_Model_noteComes_133 rfl (lv_at hl 3 rfl) ?_
        refine lv_iload hx hb d_Model_noteComes_134 (lv_at hl 4 rfl) ?_
        obtain ⟨h136, hv, hm⟩ := zbd hm
        obtain ⟨hq, hv⟩ := zcv_at hv
        refine z_cv hI (z_runV (As := [.int x2, .int x3, .int x4]) (rest := []) X hI hl.1 (c_Model_stoneAt l G K a0 x2 x3 x4 h78 _ hv) C_Model_182 rfl hq (Nat.le_of_ble_eq_true rfl) ⟨Nat.le_of_ble_eq_true rfl, Nat.le_of_ble_eq_true rfl, Nat.zero_le _, Nat.zero_le _⟩ rfl d_Model_noteComes_136) (fun H locs hI => ?_)
        refine lv_goto (tgt := 161) hx hb d_Model_noteComes_139 (by decide) ?_
        refine lv_iconst (v := (nI 1)) hx hb d_Model_noteComes_161 (by decide) ?_
        obtain ⟨rfl, rfl⟩ := zs2 hm
        exact z_zret X hI (by decide) d_Model_noteComes_162
    · replace hm := zif_f hc107 hm
      refine lv_aload_n hx hb d_Model_noteComes_110 rfl (lv_at hl 0 rfl) ?_
      refine lv_iload_n hx hb d_Model_noteComes_111 rfl (lv_at hl 2 rfl) ?_
      refine lv_iconst (v := (nI 3)) hx hb d_Model_noteComes_112 (by decide) ?_
      refine lv_iconst (v := (-1 : Int32)) hx hb d_Model_noteComes_113 (by decide) ?_
      obtain ⟨h114, hv, hm⟩ := zbd hm
      obtain ⟨hq, hv⟩ := zcv_at hv
      refine z_cv hI (z_runV (As := [.int x2, .int (nI 3), .int (-1 : Int32)]) (rest := []) X hI hl.1 (c_Model_add l G K a0 x2 (nI 3) (-1 : Int32) h78 _ hv) C_Model_151 rfl hq (Nat.le_of_ble_eq_true rfl) ⟨Nat.le_of_ble_eq_true rfl, Nat.le_of_ble_eq_true rfl, Nat.zero_le _, Nat.zero_le _⟩ rfl d_Model_noteComes_114) (fun H locs hI => ?_)
      refine lv_goto (tgt := 161) hx hb d_Model_noteComes_117 (by decide) ?_
      refine lv_iconst (v := (nI 1)) hx hb d_Model_noteComes_161 (by decide) ?_
      obtain ⟨rfl, rfl⟩ := zs2 hm
      exact z_zret X hI (by decide) d_Model_noteComes_162
  · replace hm := zif_t hc86 hm
    refine lv_aload_n hx hb d_Model_noteComes_89 rfl (lv_at hl 0 rfl) ?_
    refine lv_iload_n hx hb d_Model_noteComes_90 rfl (lv_at hl 2 rfl) ?_
    refine lv_iconst (v := (nI 3)) hx hb d_Model_noteComes_91 (by decide) ?_
    refine lv_iload_n hx hb d_Model_noteComes_92 rfl (lv_at hl 3 rfl) ?_
    obtain ⟨h93, hv, hm⟩ := zbd hm
    obtain ⟨hq, hv⟩ := zcv_at hv
    refine z_cv hI (z_runV (As := [.int x2, .int (nI 3), .int x3]) (rest := []) X hI hl.1 (c_Model_add l G K a0 x2 (nI 3) x3 h78 _ hv) C_Model_151 rfl hq (Nat.le_of_ble_eq_true rfl) ⟨Nat.le_of_ble_eq_true rfl, Nat.le_of_ble_eq_true rfl, Nat.zero_le _, Nat.zero_le _⟩ rfl d_Model_noteComes_93) (fun H locs hI => ?_)
    refine lv_goto (tgt := 161) hx hb d_Model_noteComes_96 (by decide) ?_
    refine lv_iconst (v := (nI 1)) hx hb d_Model_noteComes_161 (by decide) ?_
    obtain ⟨rfl, rfl⟩ := zs2 hm
    exact z_zret X hI (by decide) d_Model_noteComes_162
set_option maxHeartbeats 4000000 in
set_option maxRecDepth 100000 in
theorem r_Model_noteComes_0 {p : Program} {l : Launch} {e : Env} {s : State} {m : MethodId} {args : Array Value} {below : List Frame} {meth : Method} {c : Code} {G : zG} {K : Nat} (X : zX p s m args meth c "AllHomeModel" prog_9_method_29_code 5 (some .boolean) G (zA G K)) {r : Int32} {h' : zH} (a0 : Nat) (x1 : Int32) (h : zH) (hm : m_Model_noteComes a0 x1 h = some (r, h')) {H : Heap} {locs : List Loc} {ls : Array Slot} (hI : zI G K s (zA G K) H locs h) (hl : lv_has ls 5 [(0, .ref (G.1 a0)), (1, .int x1)]) : W p l e (zR 3) s m args below meth c H locs 0 0 (MQ below (zQi G K r h') args s 0 0 (zA G K)) (F0 m 0 ls []) := by
  obtain ⟨hx, hb, hml, hown, hts, hr, hlocks, hK, hST, hNs⟩ := id X
  unfold m_Model_noteComes at hm
  refine lv_iload_n hx hb d_Model_noteComes_0 rfl (lv_at hl 1 rfl) ?_
  refine lv_if_lt (tgt := 12) hx hb d_Model_noteComes_1 (by decide) (fun hc1 => ?_) (fun hc1 => ?_)
  · replace hm := zif_t hc1 hm
    refine lv_iconst (v := (nI 0)) hx hb d_Model_noteComes_12 (by decide) ?_
    obtain ⟨rfl, rfl⟩ := zs2 hm
    exact z_zret X hI (by decide) d_Model_noteComes_13
  · replace hm := zif_f hc1 hm
    refine lv_iload_n hx hb d_Model_noteComes_4 rfl (lv_at hl 1 rfl) ?_
    refine lv_aload_n hx hb d_Model_noteComes_5 rfl (lv_at hl 0 rfl) ?_
    obtain ⟨v6, hv, hm⟩ := zbd hm
    obtain ⟨hq, hv⟩ := zcv_at hv
    refine z_ci hI (z_runV (As := []) (rest := [.int x1]) X hI hl.1 (c_Model_notes l G K a0 h _ hv) C_Model_179 rfl hq (Nat.le_of_ble_eq_true rfl) ⟨Nat.le_of_ble_eq_true rfl, Nat.le_of_ble_eq_true rfl, Nat.zero_le _, Nat.zero_le _⟩ rfl d_Model_noteComes_6) (fun H locs hI => ?_)
    refine lv_icmp_lt (tgt := 14) hx hb d_Model_noteComes_9 (by decide) (fun hc9 => ?_) (fun hc9 => ?_)
    · replace hm := zif_t hc9 hm
      refine lv_aload_n hx hb d_Model_noteComes_14 rfl (lv_at hl 0 rfl) ?_
      obtain ⟨v15, hv, hm⟩ := zbd hm
      refine z_getR X hI F_Model_22 hv d_Model_noteComes_15 ?_
      refine lv_bipush (v := (nI 62)) hx hb d_Model_noteComes_18 (by decide) ?_
      refine lv_iconst (v := (nI 3)) hx hb d_Model_noteComes_20 (by decide) ?_
      refine lv_iload_n hx hb d_Model_noteComes_21 rfl (lv_at hl 1 rfl) ?_
      refine lv_imul hx hb d_Model_noteComes_22 ?_
      refine lv_iadd hx hb d_Model_noteComes_23 ?_
      obtain ⟨v24, hv, hm⟩ := zbd hm
      refine z_iald X hI hv d_Model_noteComes_24 ?_
      refine lv_istore_n (lv' := [(2, .int v24), (0, .ref (G.1 a0)), (1, .int x1)]) hx hb d_Model_noteComes_25 rfl hl (by decide) rfl (fun ls hl => ?_)
      refine lv_aload_n hx hb d_Model_noteComes_26 rfl (lv_at hl 1 rfl) ?_
      obtain ⟨v27, hv, hm⟩ := zbd hm
      refine z_getR X hI F_Model_22 hv d_Model_noteComes_27 ?_
      refine lv_bipush (v := (nI 63)) hx hb d_Model_noteComes_30 (by decide) ?_
      refine lv_iconst (v := (nI 3)) hx hb d_Model_noteComes_32 (by decide) ?_
      refine lv_iload_n hx hb d_Model_noteComes_33 rfl (lv_at hl 2 rfl) ?_
      refine lv_imul hx hb d_Model_noteComes_34 ?_
      refine lv_iadd hx hb d_Model_noteComes_35 ?_
      obtain ⟨v36, hv, hm⟩ := zbd hm
      refine z_iald X hI hv d_Model_noteComes_36 ?_
      refine lv_istore_n (lv' := [(3, .int v36), (2, .int v24), (0, .ref (G.1 a0)), (1, .int x1)]) hx hb d_Model_noteComes_37 rfl hl (by decide) rfl (fun ls hl => ?_)
      refine lv_aload_n hx hb d_Model_noteComes_38 rfl (lv_at hl 2 rfl) ?_
      obtain ⟨v39, hv, hm⟩ := zbd hm
      refine z_getR X hI F_Model_22 hv d_Model_noteComes_39 ?_
      refine lv_bipush (v := (nI 64)) hx hb d_Model_noteComes_42 (by decide) ?_
      refine lv_iconst (v := (nI 3)) hx hb d_Model_noteComes_44 (by decide) ?_
      refine lv_iload_n hx hb d_Model_noteComes_45 rfl (lv_at hl 3 rfl) ?_
      refine lv_imul hx hb d_Model_noteComes_46 ?_
      refine lv_iadd hx hb d_Model_noteComes_47 ?_
      obtain ⟨v48, hv, hm⟩ := zbd hm
      refine z_iald X hI hv d_Model_noteComes_48 ?_
      refine lv_istore (lv' := [(4, .int v48), (3, .int v36), (2, .int v24), (0, .ref (G.1 a0)), (1, .int x1)]) hx hb d_Model_noteComes_49 hl (by decide) rfl (fun ls hl => ?_)
      refine lv_aload_n hx hb d_Model_noteComes_51 rfl (lv_at hl 3 rfl) ?_
      obtain ⟨v52, hv, hm⟩ := zbd hm
      refine z_getI X hI F_Model_134 hv d_Model_noteComes_52 ?_
      refine lv_iconst (v := (nI 4)) hx hb d_Model_noteComes_55 (by decide) ?_
      obtain ⟨v56, hv, hm⟩ := zbd hm
      refine z_ci hI (z_runS (As := [.int v52, .int (nI 4)]) (rest := []) X hI hl.1 (c_Model_isUnder l G K v52 (nI 4) h _ hv) C_Model_159 rfl (Nat.le_of_ble_eq_true rfl) ⟨Nat.le_of_ble_eq_true rfl, Nat.le_of_ble_eq_true rfl, Nat.zero_le _, Nat.zero_le _⟩ rfl d_Model_noteComes_56) (fun H locs hI => ?_)
      refine lv_if_eq (tgt := 74) hx hb d_Model_noteComes_59 (by decide) (fun hc59 => ?_) (fun hc59 => ?_)
      · replace hm := zif_t hc59 hm
        exact r_Model_noteComes_74 X a0 x1 v24 v36 v48 h hm hI (lv_sub hl [3, 4, 2, 1, 0] rfl)
      · replace hm := zif_f hc59 hm
        refine lv_aload_n hx hb d_Model_noteComes_62 rfl (lv_at hl 3 rfl) ?_
        refine lv_iload_n hx hb d_Model_noteComes_63 rfl (lv_at hl 2 rfl) ?_
        refine lv_iconst (v := (nI 0)) hx hb d_Model_noteComes_64 (by decide) ?_
        obtain ⟨v65, hv, hm⟩ := zbd hm
        obtain ⟨hq, hv⟩ := zcv_at hv
        refine z_ci hI (z_runV (As := [.int v24, .int (nI 0)]) (rest := []) X hI hl.1 (c_Model_of l G K a0 v24 (nI 0) h _ hv) C_Model_155 rfl hq (Nat.le_of_ble_eq_true rfl) ⟨Nat.le_of_ble_eq_true rfl, Nat.le_of_ble_eq_true rfl, Nat.zero_le _, Nat.zero_le _⟩ rfl d_Model_noteComes_65) (fun H locs hI => ?_)
        refine lv_iconst (v := (nI 1)) hx hb d_Model_noteComes_68 (by decide) ?_
        refine lv_icmp_ne (tgt := 74) hx hb d_Model_noteComes_69 (by decide) (fun hc69 => ?_) (fun hc69 => ?_)
        · replace hm := zif_f hc69 hm
          exact r_Model_noteComes_74 X a0 x1 v24 v36 v48 h hm hI (lv_sub hl [3, 4, 2, 1, 0] rfl)
        · replace hm := zif_t hc69 hm
          refine lv_iconst (v := (nI 0)) hx hb d_Model_noteComes_72 (by decide) ?_
          obtain ⟨rfl, rfl⟩ := zs2 hm
          exact z_zret X hI (by decide) d_Model_noteComes_73
    · replace hm := zif_f hc9 hm
      refine lv_iconst (v := (nI 0)) hx hb d_Model_noteComes_12 (by decide) ?_
      obtain ⟨rfl, rfl⟩ := zs2 hm
      exact z_zret X hI (by decide) d_Model_noteComes_13
set_option maxHeartbeats 4000000 in
set_option maxRecDepth 100000 in
theorem c_Model_noteComes (l : Launch) (G : zG) (K : Nat) (a0 : Nat) (x1 : Int32) (h : zH) (r : Int32) (h' : zH) (hm : m_Model_noteComes a0 x1 h = some (r, h')) : zMz l G K y_Model_noteComes prog_9_method_29_code 5 3 [.ref (G.1 a0), .int x1] h r h' := zMet (by decide +kernel) (Nat.le_of_ble_eq_true rfl) (fun p e s m below meth c ls X hI hl => r_Model_noteComes_0 X a0 x1 h hm hI hl)
-- walk of AllHomeModel.asks
theorem d_Model_asks_0 : decode prog_9_method_32_code 0 = .ok (.iload_n 1, 1) := by decide +kernel
theorem d_Model_asks_1 : decode prog_9_method_32_code 1 = .ok (.ifCond .ne 31, 3) := by decide +kernel
theorem d_Model_asks_4 : decode prog_9_method_32_code 4 = .ok (.aload_n 0, 1) := by decide +kernel
theorem d_Model_asks_5 : decode prog_9_method_32_code 5 = .ok (.getfield 134, 3) := by decide +kernel
theorem d_Model_asks_8 : decode prog_9_method_32_code 8 = .ok (.iconst 3, 1) := by decide +kernel
theorem d_Model_asks_9 : decode prog_9_method_32_code 9 = .ok (.invokestatic 159, 3) := by decide +kernel
theorem d_Model_asks_12 : decode prog_9_method_32_code 12 = .ok (.ifCond .eq 20, 3) := by decide +kernel
theorem d_Model_asks_15 : decode prog_9_method_32_code 15 = .ok (.aload_n 0, 1) := by decide +kernel
theorem d_Model_asks_16 : decode prog_9_method_32_code 16 = .ok (.invokevirtual 179, 3) := by decide +kernel
theorem d_Model_asks_19 : decode prog_9_method_32_code 19 = .ok (.ifCond .gt 13, 3) := by decide +kernel
theorem d_Model_asks_22 : decode prog_9_method_32_code 22 = .ok (.aload_n 0, 1) := by decide +kernel
theorem d_Model_asks_23 : decode prog_9_method_32_code 23 = .ok (.iconst 0, 1) := by decide +kernel
theorem d_Model_asks_24 : decode prog_9_method_32_code 24 = .ok (.iconst 0, 1) := by decide +kernel
theorem d_Model_asks_25 : decode prog_9_method_32_code 25 = .ok (.invokevirtual 155, 3) := by decide +kernel
theorem d_Model_asks_28 : decode prog_9_method_32_code 28 = .ok (.iconst 1, 1) := by decide +kernel
theorem d_Model_asks_29 : decode prog_9_method_32_code 29 = .ok (.if_icmp .ne 5, 3) := by decide +kernel
theorem d_Model_asks_32 : decode prog_9_method_32_code 32 = .ok (.iconst 0, 1) := by decide +kernel
theorem d_Model_asks_33 : decode prog_9_method_32_code 33 = .ok (.ireturn, 1) := by decide +kernel
theorem d_Model_asks_34 : decode prog_9_method_32_code 34 = .ok (.aload_n 0, 1) := by decide +kernel
theorem d_Model_asks_35 : decode prog_9_method_32_code 35 = .ok (.getfield 134, 3) := by decide +kernel
theorem d_Model_asks_38 : decode prog_9_method_32_code 38 = .ok (.iconst 5, 1) := by decide +kernel
theorem d_Model_asks_39 : decode prog_9_method_32_code 39 = .ok (.invokestatic 159, 3) := by decide +kernel
theorem d_Model_asks_42 : decode prog_9_method_32_code 42 = .ok (.ifCond .eq 35, 3) := by decide +kernel
theorem d_Model_asks_45 : decode prog_9_method_32_code 45 = .ok (.aload_n 0, 1) := by decide +kernel
theorem d_Model_asks_46 : decode prog_9_method_32_code 46 = .ok (.aload_n 0, 1) := by decide +kernel
theorem d_Model_asks_47 : decode prog_9_method_32_code 47 = .ok (.getfield 78, 3) := by decide +kernel
theorem d_Model_asks_50 : decode prog_9_method_32_code 50 = .ok (.iconst 1, 1) := by decide +kernel
theorem d_Model_asks_51 : decode prog_9_method_32_code 51 = .ok (.if_icmp .le 7, 3) := by decide +kernel
theorem d_Model_asks_54 : decode prog_9_method_32_code 54 = .ok (.iconst 1, 1) := by decide +kernel
theorem d_Model_asks_55 : decode prog_9_method_32_code 55 = .ok (.goto 4, 3) := by decide +kernel
theorem d_Model_asks_58 : decode prog_9_method_32_code 58 = .ok (.iconst 0, 1) := by decide +kernel
theorem d_Model_asks_59 : decode prog_9_method_32_code 59 = .ok (.aload_n 0, 1) := by decide +kernel
theorem d_Model_asks_60 : decode prog_9_method_32_code 60 = .ok (.iconst 0, 1) := by decide +kernel
theorem d_Model_asks_61 : decode prog_9_method_32_code 61 = .ok (.iconst 3, 1) := by decide +kernel
theorem d_Model_asks_62 : decode prog_9_method_32_code 62 = .ok (.invokevirtual 155, 3) := by decide +kernel
theorem d_Model_asks_65 : decode prog_9_method_32_code 65 = .ok (.aload_n 0, 1) := by decide +kernel
theorem d_Model_asks_66 : decode prog_9_method_32_code 66 = .ok (.iconst 0, 1) := by decide +kernel
theorem d_Model_asks_67 : decode prog_9_method_32_code 67 = .ok (.iconst 4, 1) := by decide +kernel
theorem d_Model_asks_68 : decode prog_9_method_32_code 68 = .ok (.invokevirtual 155, 3) := by decide +kernel
theorem d_Model_asks_71 : decode prog_9_method_32_code 71 = .ok (.invokevirtual 169, 3) := by decide +kernel
theorem d_Model_asks_74 : decode prog_9_method_32_code 74 = .ok (.goto 33, 3) := by decide +kernel
theorem d_Model_asks_77 : decode prog_9_method_32_code 77 = .ok (.aload_n 0, 1) := by decide +kernel
theorem d_Model_asks_78 : decode prog_9_method_32_code 78 = .ok (.getfield 134, 3) := by decide +kernel
theorem d_Model_asks_81 : decode prog_9_method_32_code 81 = .ok (.iconst 4, 1) := by decide +kernel
theorem d_Model_asks_82 : decode prog_9_method_32_code 82 = .ok (.invokestatic 159, 3) := by decide +kernel
theorem d_Model_asks_85 : decode prog_9_method_32_code 85 = .ok (.ifCond .eq 22, 3) := by decide +kernel
theorem d_Model_asks_88 : decode prog_9_method_32_code 88 = .ok (.aload_n 0, 1) := by decide +kernel
theorem d_Model_asks_89 : decode prog_9_method_32_code 89 = .ok (.iconst 0, 1) := by decide +kernel
theorem d_Model_asks_90 : decode prog_9_method_32_code 90 = .ok (.iconst 4, 1) := by decide +kernel
theorem d_Model_asks_91 : decode prog_9_method_32_code 91 = .ok (.iconst 0, 1) := by decide +kernel
theorem d_Model_asks_92 : decode prog_9_method_32_code 92 = .ok (.invokevirtual 166, 3) := by decide +kernel
theorem d_Model_asks_95 : decode prog_9_method_32_code 95 = .ok (.aload_n 0, 1) := by decide +kernel
theorem d_Model_asks_96 : decode prog_9_method_32_code 96 = .ok (.aload_n 0, 1) := by decide +kernel
theorem d_Model_asks_97 : decode prog_9_method_32_code 97 = .ok (.getfield 78, 3) := by decide +kernel
theorem d_Model_asks_100 : decode prog_9_method_32_code 100 = .ok (.iconst 1, 1) := by decide +kernel
theorem d_Model_asks_101 : decode prog_9_method_32_code 101 = .ok (.isub, 1) := by decide +kernel
theorem d_Model_asks_102 : decode prog_9_method_32_code 102 = .ok (.iconst 0, 1) := by decide +kernel
theorem d_Model_asks_103 : decode prog_9_method_32_code 103 = .ok (.iconst 0, 1) := by decide +kernel
theorem d_Model_asks_104 : decode prog_9_method_32_code 104 = .ok (.invokevirtual 169, 3) := by decide +kernel
theorem d_Model_asks_107 : decode prog_9_method_32_code 107 = .ok (.iconst 1, 1) := by decide +kernel
theorem d_Model_asks_108 : decode prog_9_method_32_code 108 = .ok (.ireturn, 1) := by decide +kernel
set_option maxHeartbeats 4000000 in
set_option maxRecDepth 100000 in
theorem r_Model_asks_59 {p : Program} {l : Launch} {e : Env} {s : State} {m : MethodId} {args : Array Value} {below : List Frame} {meth : Method} {c : Code} {G : zG} {K : Nat} (X : zX p s m args meth c "AllHomeModel" prog_9_method_32_code 2 (some .boolean) G (zA G K)) {r : Int32} {h' : zH} (a0 : Nat) (c0 : Nat) (y1 : Int32) (h : zH) (hm : g_Model_asks_59 a0 c0 y1 h = some (r, h')) {H : Heap} {locs : List Loc} {ls : Array Slot} (hI : zI G K s (zA G K) H locs h) (hl : lv_has ls 2 [(0, .ref (G.1 a0))]) : W p l e (zR 2) s m args below meth c H locs 0 0 (MQ below (zQi G K r h') args s 0 0 (zA G K)) (F0 m 59 ls [.int y1, .ref (G.1 c0)]) := by
  obtain ⟨hx, hb, hml, hown, hts, hr, hlocks, hK, hST, hNs⟩ := id X
  unfold g_Model_asks_59 at hm
  refine lv_aload_n hx hb d_Model_asks_59 rfl (lv_at hl 0 rfl) ?_
  refine lv_iconst (v := (nI 0)) hx hb d_Model_asks_60 (by decide) ?_
  refine lv_iconst (v := (nI 3)) hx hb d_Model_asks_61 (by decide) ?_
  obtain ⟨v62, hv, hm⟩ := zbd hm
  obtain ⟨hq, hv⟩ := zcv_at hv
  refine z_ci hI (z_runV (As := [.int (nI 0), .int (nI 3)]) (rest := [.int y1, .ref (G.1 c0)]) X hI hl.1 (c_Model_of l G K a0 (nI 0) (nI 3) h _ hv) C_Model_155 rfl hq (Nat.le_of_ble_eq_true rfl) ⟨Nat.le_of_ble_eq_true rfl, Nat.le_of_ble_eq_true rfl, Nat.zero_le _, Nat.zero_le _⟩ rfl d_Model_asks_62) (fun H locs hI => ?_)
  refine lv_aload_n hx hb d_Model_asks_65 rfl (lv_at hl 0 rfl) ?_
  refine lv_iconst (v := (nI 0)) hx hb d_Model_asks_66 (by decide) ?_
  refine lv_iconst (v := (nI 4)) hx hb d_Model_asks_67 (by decide) ?_
  obtain ⟨v68, hv, hm⟩ := zbd hm
  obtain ⟨hq, hv⟩ := zcv_at hv
  refine z_ci hI (z_runV (As := [.int (nI 0), .int (nI 4)]) (rest := [.int v62, .int y1, .ref (G.1 c0)]) X hI hl.1 (c_Model_of l G K a0 (nI 0) (nI 4) h _ hv) C_Model_155 rfl hq (Nat.le_of_ble_eq_true rfl) ⟨Nat.le_of_ble_eq_true rfl, Nat.le_of_ble_eq_true rfl, Nat.zero_le _, Nat.zero_le _⟩ rfl d_Model_asks_68) (fun H locs hI => ?_)
  obtain ⟨h71, hv, hm⟩ := zbd hm
  obtain ⟨hq, hv⟩ := zcv_at hv
  refine z_cv hI (z_runV (As := [.int y1, .int v62, .int v68]) (rest := []) X hI hl.1 (c_Model_sendNote l G K c0 y1 v62 v68 h _ hv) C_Model_169 rfl hq (Nat.le_of_ble_eq_true rfl) ⟨Nat.le_of_ble_eq_true rfl, Nat.le_of_ble_eq_true rfl, Nat.zero_le _, Nat.zero_le _⟩ rfl d_Model_asks_71) (fun H locs hI => ?_)
  refine lv_goto (tgt := 107) hx hb d_Model_asks_74 (by decide) ?_
  refine lv_iconst (v := (nI 1)) hx hb d_Model_asks_107 (by decide) ?_
  obtain ⟨rfl, rfl⟩ := zs2 hm
  exact z_zret X hI (by decide) d_Model_asks_108
set_option maxHeartbeats 4000000 in
set_option maxRecDepth 100000 in
theorem r_Model_asks_0 {p : Program} {l : Launch} {e : Env} {s : State} {m : MethodId} {args : Array Value} {below : List Frame} {meth : Method} {c : Code} {G : zG} {K : Nat} (X : zX p s m args meth c "AllHomeModel" prog_9_method_32_code 2 (some .boolean) G (zA G K)) {r : Int32} {h' : zH} (a0 : Nat) (x1 : Int32) (h : zH) (hm : m_Model_asks a0 x1 h = some (r, h')) {H : Heap} {locs : List Loc} {ls : Array Slot} (hI : zI G K s (zA G K) H locs h) (hl : lv_has ls 2 [(0, .ref (G.1 a0)), (1, .int x1)]) : W p l e (zR 2) s m args below meth c H locs 0 0 (MQ below (zQi G K r h') args s 0 0 (zA G K)) (F0 m 0 ls []) := by
  obtain ⟨hx, hb, hml, hown, hts, hr, hlocks, hK, hST, hNs⟩ := id X
  unfold m_Model_asks at hm
  refine lv_iload_n hx hb d_Model_asks_0 rfl (lv_at hl 1 rfl) ?_
  refine lv_if_ne (tgt := 32) hx hb d_Model_asks_1 (by decide) (fun hc1 => ?_) (fun hc1 => ?_)
  · replace hm := zif_f hc1 hm
    refine lv_iconst (v := (nI 0)) hx hb d_Model_asks_32 (by decide) ?_
    obtain ⟨rfl, rfl⟩ := zs2 hm
    exact z_zret X hI (by decide) d_Model_asks_33
  · replace hm := zif_t hc1 hm
    refine lv_aload_n hx hb d_Model_asks_4 rfl (lv_at hl 0 rfl) ?_
    obtain ⟨v5, hv, hm⟩ := zbd hm
    refine z_getI X hI F_Model_134 hv d_Model_asks_5 ?_
    refine lv_iconst (v := (nI 3)) hx hb d_Model_asks_8 (by decide) ?_
    obtain ⟨v9, hv, hm⟩ := zbd hm
    refine z_ci hI (z_runS (As := [.int v5, .int (nI 3)]) (rest := []) X hI hl.1 (c_Model_isUnder l G K v5 (nI 3) h _ hv) C_Model_159 rfl (Nat.le_of_ble_eq_true rfl) ⟨Nat.le_of_ble_eq_true rfl, Nat.le_of_ble_eq_true rfl, Nat.zero_le _, Nat.zero_le _⟩ rfl d_Model_asks_9) (fun H locs hI => ?_)
    refine lv_if_eq (tgt := 32) hx hb d_Model_asks_12 (by decide) (fun hc12 => ?_) (fun hc12 => ?_)
    · replace hm := zif_t hc12 hm
      refine lv_iconst (v := (nI 0)) hx hb d_Model_asks_32 (by decide) ?_
      obtain ⟨rfl, rfl⟩ := zs2 hm
      exact z_zret X hI (by decide) d_Model_asks_33
    · replace hm := zif_f hc12 hm
      refine lv_aload_n hx hb d_Model_asks_15 rfl (lv_at hl 0 rfl) ?_
      obtain ⟨v16, hv, hm⟩ := zbd hm
      obtain ⟨hq, hv⟩ := zcv_at hv
      refine z_ci hI (z_runV (As := []) (rest := []) X hI hl.1 (c_Model_notes l G K a0 h _ hv) C_Model_179 rfl hq (Nat.le_of_ble_eq_true rfl) ⟨Nat.le_of_ble_eq_true rfl, Nat.le_of_ble_eq_true rfl, Nat.zero_le _, Nat.zero_le _⟩ rfl d_Model_asks_16) (fun H locs hI => ?_)
      refine lv_if_gt (tgt := 32) hx hb d_Model_asks_19 (by decide) (fun hc19 => ?_) (fun hc19 => ?_)
      · replace hm := zif_t hc19 hm
        refine lv_iconst (v := (nI 0)) hx hb d_Model_asks_32 (by decide) ?_
        obtain ⟨rfl, rfl⟩ := zs2 hm
        exact z_zret X hI (by decide) d_Model_asks_33
      · replace hm := zif_f hc19 hm
        refine lv_aload_n hx hb d_Model_asks_22 rfl (lv_at hl 0 rfl) ?_
        refine lv_iconst (v := (nI 0)) hx hb d_Model_asks_23 (by decide) ?_
        refine lv_iconst (v := (nI 0)) hx hb d_Model_asks_24 (by decide) ?_
        obtain ⟨v25, hv, hm⟩ := zbd hm
        obtain ⟨hq, hv⟩ := zcv_at hv
        refine z_ci hI (z_runV (As := [.int (nI 0), .int (nI 0)]) (rest := []) X hI hl.1 (c_Model_of l G K a0 (nI 0) (nI 0) h _ hv) C_Model_155 rfl hq (Nat.le_of_ble_eq_true rfl) ⟨Nat.le_of_ble_eq_true rfl, Nat.le_of_ble_eq_true rfl, Nat.zero_le _, Nat.zero_le _⟩ rfl d_Model_asks_25) (fun H locs hI => ?_)
        refine lv_iconst (v := (nI 1)) hx hb d_Model_asks_28 (by decide) ?_
        refine lv_icmp_ne (tgt := 34) hx hb d_Model_asks_29 (by decide) (fun hc29 => ?_) (fun hc29 => ?_)
        · replace hm := zif_f hc29 hm
          refine lv_aload_n hx hb d_Model_asks_34 rfl (lv_at hl 0 rfl) ?_
          obtain ⟨v35, hv, hm⟩ := zbd hm
          refine z_getI X hI F_Model_134 hv d_Model_asks_35 ?_
          refine lv_iconst (v := (nI 5)) hx hb d_Model_asks_38 (by decide) ?_
          obtain ⟨v39, hv, hm⟩ := zbd hm
          refine z_ci hI (z_runS (As := [.int v35, .int (nI 5)]) (rest := []) X hI hl.1 (c_Model_isUnder l G K v35 (nI 5) h _ hv) C_Model_159 rfl (Nat.le_of_ble_eq_true rfl) ⟨Nat.le_of_ble_eq_true rfl, Nat.le_of_ble_eq_true rfl, Nat.zero_le _, Nat.zero_le _⟩ rfl d_Model_asks_39) (fun H locs hI => ?_)
          refine lv_if_eq (tgt := 77) hx hb d_Model_asks_42 (by decide) (fun hc42 => ?_) (fun hc42 => ?_)
          · replace hm := zif_t hc42 hm
            refine lv_aload_n hx hb d_Model_asks_77 rfl (lv_at hl 0 rfl) ?_
            obtain ⟨v78, hv, hm⟩ := zbd hm
            refine z_getI X hI F_Model_134 hv d_Model_asks_78 ?_
            refine lv_iconst (v := (nI 4)) hx hb d_Model_asks_81 (by decide) ?_
            obtain ⟨v82, hv, hm⟩ := zbd hm
            refine z_ci hI (z_runS (As := [.int v78, .int (nI 4)]) (rest := []) X hI hl.1 (c_Model_isUnder l G K v78 (nI 4) h _ hv) C_Model_159 rfl (Nat.le_of_ble_eq_true rfl) ⟨Nat.le_of_ble_eq_true rfl, Nat.le_of_ble_eq_true rfl, Nat.zero_le _, Nat.zero_le _⟩ rfl d_Model_asks_82) (fun H locs hI => ?_)
            refine lv_if_eq (tgt := 107) hx hb d_Model_asks_85 (by decide) (fun hc85 => ?_) (fun hc85 => ?_)
            · replace hm := zif_t hc85 hm
              refine lv_iconst (v := (nI 1)) hx hb d_Model_asks_107 (by decide) ?_
              obtain ⟨rfl, rfl⟩ := zs2 hm
              exact z_zret X hI (by decide) d_Model_asks_108
            · replace hm := zif_f hc85 hm
              refine lv_aload_n hx hb d_Model_asks_88 rfl (lv_at hl 0 rfl) ?_
              refine lv_iconst (v := (nI 0)) hx hb d_Model_asks_89 (by decide) ?_
              refine lv_iconst (v := (nI 4)) hx hb d_Model_asks_90 (by decide) ?_
              refine lv_iconst (v := (nI 0)) hx hb d_Model_asks_91 (by decide) ?_
              obtain ⟨h92, hv, hm⟩ := zbd hm
              obtain ⟨hq, hv⟩ := zcv_at hv
              refine z_cv hI (z_runV (As := [.int (nI 0), .int (nI 4), .int (nI 0)]) (rest := []) X hI hl.1 (c_Model_become l G K a0 (nI 0) (nI 4) (nI 0) h _ hv) C_Model_166 rfl hq (Nat.le_of_ble_eq_true rfl) ⟨Nat.le_of_ble_eq_true rfl, Nat.le_of_ble_eq_true rfl, Nat.zero_le _, Nat.zero_le _⟩ rfl d_Model_asks_92) (fun H locs hI => ?_)
              refine lv_aload_n hx hb d_Model_asks_95 rfl (lv_at hl 0 rfl) ?_
              refine lv_aload_n hx hb d_Model_asks_96 rfl (lv_at hl 0 rfl) ?_
              obtain ⟨v97, hv, hm⟩ := zbd hm
              refine z_getI X hI F_Model_78 hv d_Model_asks_97 ?_
              refine lv_iconst (v := (nI 1)) hx hb d_Model_asks_100 (by decide) ?_
              refine lv_isub hx hb d_Model_asks_101 ?_
              refine lv_iconst (v := (nI 0)) hx hb d_Model_asks_102 (by decide) ?_
              refine lv_iconst (v := (nI 0)) hx hb d_Model_asks_103 (by decide) ?_
              obtain ⟨h104, hv, hm⟩ := zbd hm
              obtain ⟨hq, hv⟩ := zcv_at hv
              refine z_cv hI (z_runV (As := [.int (v97 - (nI 1)), .int (nI 0), .int (nI 0)]) (rest := []) X hI hl.1 (c_Model_sendNote l G K a0 (v97 - (nI 1)) (nI 0) (nI 0) h92 _ hv) C_Model_169 rfl hq (Nat.le_of_ble_eq_true rfl) ⟨Nat.le_of_ble_eq_true rfl, Nat.le_of_ble_eq_true rfl, Nat.zero_le _, Nat.zero_le _⟩ rfl d_Model_asks_104) (fun H locs hI => ?_)
              refine lv_iconst (v := (nI 1)) hx hb d_Model_asks_107 (by decide) ?_
              obtain ⟨rfl, rfl⟩ := zs2 hm
              exact z_zret X hI (by decide) d_Model_asks_108
          · replace hm := zif_f hc42 hm
            refine lv_aload_n hx hb d_Model_asks_45 rfl (lv_at hl 0 rfl) ?_
            refine lv_aload_n hx hb d_Model_asks_46 rfl (lv_at hl 0 rfl) ?_
            obtain ⟨v47, hv, hm⟩ := zbd hm
            refine z_getI X hI F_Model_78 hv d_Model_asks_47 ?_
            refine lv_iconst (v := (nI 1)) hx hb d_Model_asks_50 (by decide) ?_
            refine lv_icmp_le (tgt := 58) hx hb d_Model_asks_51 (by decide) (fun hc51 => ?_) (fun hc51 => ?_)
            · replace hm := zif_t hc51 hm
              refine lv_iconst (v := (nI 0)) hx hb d_Model_asks_58 (by decide) ?_
              exact r_Model_asks_59 X a0 a0 (nI 0) h hm hI (lv_sub hl [0] rfl)
            · replace hm := zif_f hc51 hm
              refine lv_iconst (v := (nI 1)) hx hb d_Model_asks_54 (by decide) ?_
              refine lv_goto (tgt := 59) hx hb d_Model_asks_55 (by decide) ?_
              exact r_Model_asks_59 X a0 a0 (nI 1) h hm hI (lv_sub hl [0] rfl)
        · replace hm := zif_t hc29 hm
          refine lv_iconst (v := (nI 0)) hx hb d_Model_asks_32 (by decide) ?_
          obtain ⟨rfl, rfl⟩ := zs2 hm
          exact z_zret X hI (by decide) d_Model_asks_33
set_option maxHeartbeats 4000000 in
set_option maxRecDepth 100000 in
theorem c_Model_asks (l : Launch) (G : zG) (K : Nat) (a0 : Nat) (x1 : Int32) (h : zH) (r : Int32) (h' : zH) (hm : m_Model_asks a0 x1 h = some (r, h')) : zMz l G K y_Model_asks prog_9_method_32_code 2 2 [.ref (G.1 a0), .int x1] h r h' := zMet (by decide +kernel) (Nat.le_of_ble_eq_true rfl) (fun p e s m below meth c ls X hI hl => r_Model_asks_0 X a0 x1 h hm hI hl)
-- walk of AllHomeModel.behind
theorem d_Model_behind_0 : decode prog_9_method_33_code 0 = .ok (.aload_n 0, 1) := by decide +kernel
theorem d_Model_behind_1 : decode prog_9_method_33_code 1 = .ok (.getfield 134, 3) := by decide +kernel
theorem d_Model_behind_4 : decode prog_9_method_33_code 4 = .ok (.iconst 2, 1) := by decide +kernel
theorem d_Model_behind_5 : decode prog_9_method_33_code 5 = .ok (.invokestatic 159, 3) := by decide +kernel
theorem d_Model_behind_8 : decode prog_9_method_33_code 8 = .ok (.ifCond .eq 118, 3) := by decide +kernel
theorem d_Model_behind_11 : decode prog_9_method_33_code 11 = .ok (.iconst 1, 1) := by decide +kernel
theorem d_Model_behind_12 : decode prog_9_method_33_code 12 = .ok (.istore_n 1, 1) := by decide +kernel
theorem d_Model_behind_13 : decode prog_9_method_33_code 13 = .ok (.iload_n 1, 1) := by decide +kernel
theorem d_Model_behind_14 : decode prog_9_method_33_code 14 = .ok (.aload_n 0, 1) := by decide +kernel
theorem d_Model_behind_15 : decode prog_9_method_33_code 15 = .ok (.getfield 78, 3) := by decide +kernel
theorem d_Model_behind_18 : decode prog_9_method_33_code 18 = .ok (.if_icmp .ge 72, 3) := by decide +kernel
theorem d_Model_behind_21 : decode prog_9_method_33_code 21 = .ok (.aload_n 0, 1) := by decide +kernel
theorem d_Model_behind_22 : decode prog_9_method_33_code 22 = .ok (.iload_n 1, 1) := by decide +kernel
theorem d_Model_behind_23 : decode prog_9_method_33_code 23 = .ok (.iconst 5, 1) := by decide +kernel
theorem d_Model_behind_24 : decode prog_9_method_33_code 24 = .ok (.invokevirtual 155, 3) := by decide +kernel
theorem d_Model_behind_27 : decode prog_9_method_33_code 27 = .ok (.iconst 1, 1) := by decide +kernel
theorem d_Model_behind_28 : decode prog_9_method_33_code 28 = .ok (.if_icmp .ne 56, 3) := by decide +kernel
theorem d_Model_behind_31 : decode prog_9_method_33_code 31 = .ok (.aload_n 0, 1) := by decide +kernel
theorem d_Model_behind_32 : decode prog_9_method_33_code 32 = .ok (.iload_n 1, 1) := by decide +kernel
theorem d_Model_behind_33 : decode prog_9_method_33_code 33 = .ok (.iconst 0, 1) := by decide +kernel
theorem d_Model_behind_34 : decode prog_9_method_33_code 34 = .ok (.invokevirtual 155, 3) := by decide +kernel
theorem d_Model_behind_37 : decode prog_9_method_33_code 37 = .ok (.ifCond .ne 47, 3) := by decide +kernel
theorem d_Model_behind_40 : decode prog_9_method_33_code 40 = .ok (.aload_n 0, 1) := by decide +kernel
theorem d_Model_behind_41 : decode prog_9_method_33_code 41 = .ok (.getfield 134, 3) := by decide +kernel
theorem d_Model_behind_44 : decode prog_9_method_33_code 44 = .ok (.bipush 6, 2) := by decide +kernel
theorem d_Model_behind_46 : decode prog_9_method_33_code 46 = .ok (.if_icmp .eq 12, 3) := by decide +kernel
theorem d_Model_behind_49 : decode prog_9_method_33_code 49 = .ok (.aload_n 0, 1) := by decide +kernel
theorem d_Model_behind_50 : decode prog_9_method_33_code 50 = .ok (.iload_n 1, 1) := by decide +kernel
theorem d_Model_behind_51 : decode prog_9_method_33_code 51 = .ok (.iconst 3, 1) := by decide +kernel
theorem d_Model_behind_52 : decode prog_9_method_33_code 52 = .ok (.invokevirtual 155, 3) := by decide +kernel
theorem d_Model_behind_55 : decode prog_9_method_33_code 55 = .ok (.ifCond .ne 29, 3) := by decide +kernel
theorem d_Model_behind_58 : decode prog_9_method_33_code 58 = .ok (.aload_n 0, 1) := by decide +kernel
theorem d_Model_behind_59 : decode prog_9_method_33_code 59 = .ok (.aload_n 0, 1) := by decide +kernel
theorem d_Model_behind_60 : decode prog_9_method_33_code 60 = .ok (.iload_n 1, 1) := by decide +kernel
theorem d_Model_behind_61 : decode prog_9_method_33_code 61 = .ok (.iconst 4, 1) := by decide +kernel
theorem d_Model_behind_62 : decode prog_9_method_33_code 62 = .ok (.invokevirtual 155, 3) := by decide +kernel
theorem d_Model_behind_65 : decode prog_9_method_33_code 65 = .ok (.iconst 0, 1) := by decide +kernel
theorem d_Model_behind_66 : decode prog_9_method_33_code 66 = .ok (.iconst 0, 1) := by decide +kernel
theorem d_Model_behind_67 : decode prog_9_method_33_code 67 = .ok (.invokevirtual 169, 3) := by decide +kernel
theorem d_Model_behind_70 : decode prog_9_method_33_code 70 = .ok (.aload_n 0, 1) := by decide +kernel
theorem d_Model_behind_71 : decode prog_9_method_33_code 71 = .ok (.iload_n 1, 1) := by decide +kernel
theorem d_Model_behind_72 : decode prog_9_method_33_code 72 = .ok (.iconst 5, 1) := by decide +kernel
theorem d_Model_behind_73 : decode prog_9_method_33_code 73 = .ok (.iconst 0, 1) := by decide +kernel
theorem d_Model_behind_74 : decode prog_9_method_33_code 74 = .ok (.invokevirtual 166, 3) := by decide +kernel
theorem d_Model_behind_77 : decode prog_9_method_33_code 77 = .ok (.aload_n 0, 1) := by decide +kernel
theorem d_Model_behind_78 : decode prog_9_method_33_code 78 = .ok (.iload_n 1, 1) := by decide +kernel
theorem d_Model_behind_79 : decode prog_9_method_33_code 79 = .ok (.iconst 4, 1) := by decide +kernel
theorem d_Model_behind_80 : decode prog_9_method_33_code 80 = .ok (.iconst (-1), 1) := by decide +kernel
theorem d_Model_behind_81 : decode prog_9_method_33_code 81 = .ok (.invokevirtual 166, 3) := by decide +kernel
theorem d_Model_behind_84 : decode prog_9_method_33_code 84 = .ok (.iinc 1 1, 3) := by decide +kernel
theorem d_Model_behind_87 : decode prog_9_method_33_code 87 = .ok (.goto (-74), 3) := by decide +kernel
theorem d_Model_behind_90 : decode prog_9_method_33_code 90 = .ok (.aload_n 0, 1) := by decide +kernel
theorem d_Model_behind_91 : decode prog_9_method_33_code 91 = .ok (.getfield 22, 3) := by decide +kernel
theorem d_Model_behind_94 : decode prog_9_method_33_code 94 = .ok (.bipush 87, 2) := by decide +kernel
theorem d_Model_behind_96 : decode prog_9_method_33_code 96 = .ok (.aload_n 0, 1) := by decide +kernel
theorem d_Model_behind_97 : decode prog_9_method_33_code 97 = .ok (.iconst 0, 1) := by decide +kernel
theorem d_Model_behind_98 : decode prog_9_method_33_code 98 = .ok (.iconst 0, 1) := by decide +kernel
theorem d_Model_behind_99 : decode prog_9_method_33_code 99 = .ok (.invokevirtual 155, 3) := by decide +kernel
theorem d_Model_behind_102 : decode prog_9_method_33_code 102 = .ok (.ifCond .ne 16, 3) := by decide +kernel
theorem d_Model_behind_105 : decode prog_9_method_33_code 105 = .ok (.aload_n 0, 1) := by decide +kernel
theorem d_Model_behind_106 : decode prog_9_method_33_code 106 = .ok (.iconst 0, 1) := by decide +kernel
theorem d_Model_behind_107 : decode prog_9_method_33_code 107 = .ok (.iconst 3, 1) := by decide +kernel
theorem d_Model_behind_108 : decode prog_9_method_33_code 108 = .ok (.invokevirtual 155, 3) := by decide +kernel
theorem d_Model_behind_111 : decode prog_9_method_33_code 111 = .ok (.ifCond .gt 7, 3) := by decide +kernel
theorem d_Model_behind_114 : decode prog_9_method_33_code 114 = .ok (.iconst 1, 1) := by decide +kernel
theorem d_Model_behind_115 : decode prog_9_method_33_code 115 = .ok (.goto 10, 3) := by decide +kernel
theorem d_Model_behind_118 : decode prog_9_method_33_code 118 = .ok (.aload_n 0, 1) := by decide +kernel
theorem d_Model_behind_119 : decode prog_9_method_33_code 119 = .ok (.getfield 22, 3) := by decide +kernel
theorem d_Model_behind_122 : decode prog_9_method_33_code 122 = .ok (.bipush 87, 2) := by decide +kernel
theorem d_Model_behind_124 : decode prog_9_method_33_code 124 = .ok (.iaload, 1) := by decide +kernel
theorem d_Model_behind_125 : decode prog_9_method_33_code 125 = .ok (.iastore, 1) := by decide +kernel
theorem d_Model_behind_126 : decode prog_9_method_33_code 126 = .ok (.aload_n 0, 1) := by decide +kernel
theorem d_Model_behind_127 : decode prog_9_method_33_code 127 = .ok (.getfield 134, 3) := by decide +kernel
theorem d_Model_behind_130 : decode prog_9_method_33_code 130 = .ok (.iconst 1, 1) := by decide +kernel
theorem d_Model_behind_131 : decode prog_9_method_33_code 131 = .ok (.if_icmp .ne 46, 3) := by decide +kernel
theorem d_Model_behind_134 : decode prog_9_method_33_code 134 = .ok (.aload_n 0, 1) := by decide +kernel
theorem d_Model_behind_135 : decode prog_9_method_33_code 135 = .ok (.getfield 22, 3) := by decide +kernel
theorem d_Model_behind_138 : decode prog_9_method_33_code 138 = .ok (.bipush 87, 2) := by decide +kernel
theorem d_Model_behind_140 : decode prog_9_method_33_code 140 = .ok (.aload_n 0, 1) := by decide +kernel
theorem d_Model_behind_141 : decode prog_9_method_33_code 141 = .ok (.iconst 0, 1) := by decide +kernel
theorem d_Model_behind_142 : decode prog_9_method_33_code 142 = .ok (.iconst 0, 1) := by decide +kernel
theorem d_Model_behind_143 : decode prog_9_method_33_code 143 = .ok (.invokevirtual 155, 3) := by decide +kernel
theorem d_Model_behind_146 : decode prog_9_method_33_code 146 = .ok (.ifCond .ne 23, 3) := by decide +kernel
theorem d_Model_behind_149 : decode prog_9_method_33_code 149 = .ok (.aload_n 0, 1) := by decide +kernel
theorem d_Model_behind_150 : decode prog_9_method_33_code 150 = .ok (.iconst 0, 1) := by decide +kernel
theorem d_Model_behind_151 : decode prog_9_method_33_code 151 = .ok (.iconst 3, 1) := by decide +kernel
theorem d_Model_behind_152 : decode prog_9_method_33_code 152 = .ok (.invokevirtual 155, 3) := by decide +kernel
theorem d_Model_behind_155 : decode prog_9_method_33_code 155 = .ok (.aload_n 0, 1) := by decide +kernel
theorem d_Model_behind_156 : decode prog_9_method_33_code 156 = .ok (.getfield 22, 3) := by decide +kernel
theorem d_Model_behind_159 : decode prog_9_method_33_code 159 = .ok (.bipush 86, 2) := by decide +kernel
theorem d_Model_behind_161 : decode prog_9_method_33_code 161 = .ok (.iaload, 1) := by decide +kernel
theorem d_Model_behind_162 : decode prog_9_method_33_code 162 = .ok (.if_icmp .ne 7, 3) := by decide +kernel
theorem d_Model_behind_165 : decode prog_9_method_33_code 165 = .ok (.iconst 1, 1) := by decide +kernel
theorem d_Model_behind_166 : decode prog_9_method_33_code 166 = .ok (.goto 10, 3) := by decide +kernel
theorem d_Model_behind_169 : decode prog_9_method_33_code 169 = .ok (.aload_n 0, 1) := by decide +kernel
theorem d_Model_behind_170 : decode prog_9_method_33_code 170 = .ok (.getfield 22, 3) := by decide +kernel
theorem d_Model_behind_173 : decode prog_9_method_33_code 173 = .ok (.bipush 87, 2) := by decide +kernel
theorem d_Model_behind_175 : decode prog_9_method_33_code 175 = .ok (.iaload, 1) := by decide +kernel
theorem d_Model_behind_176 : decode prog_9_method_33_code 176 = .ok (.iastore, 1) := by decide +kernel
theorem d_Model_behind_177 : decode prog_9_method_33_code 177 = .ok (.return_, 1) := by decide +kernel
set_option maxHeartbeats 4000000 in
set_option maxRecDepth 100000 in
theorem r_Model_behind_126 {p : Program} {l : Launch} {e : Env} {s : State} {m : MethodId} {args : Array Value} {below : List Frame} {meth : Method} {c : Code} {G : zG} {K : Nat} (X : zX p s m args meth c "AllHomeModel" prog_9_method_33_code 2 none G (zA G K)) {h' : zH} (a0 : Nat) (h : zH) (hm : g_Model_behind_126 a0 h = some h') {H : Heap} {locs : List Loc} {ls : Array Slot} (hI : zI G K s (zA G K) H locs h) (hl : lv_has ls 2 [(0, .ref (G.1 a0))]) : W p l e (zR 2) s m args below meth c H locs 0 0 (MQ below (zQv G K h') args s 0 0 (zA G K)) (F0 m 126 ls []) := by
  obtain ⟨hx, hb, hml, hown, hts, hr, hlocks, hK, hST, hNs⟩ := id X
  unfold g_Model_behind_126 at hm
  refine lv_aload_n hx hb d_Model_behind_126 rfl (lv_at hl 0 rfl) ?_
  obtain ⟨v127, hv, hm⟩ := zbd hm
  refine z_getI X hI F_Model_134 hv d_Model_behind_127 ?_
  refine lv_iconst (v := (nI 1)) hx hb d_Model_behind_130 (by decide) ?_
  refine lv_icmp_ne (tgt := 177) hx hb d_Model_behind_131 (by decide) (fun hc131 => ?_) (fun hc131 => ?_)
  · replace hm := zif_f hc131 hm
    obtain rfl := zs1 hm
    exact z_vret X hI d_Model_behind_177
  · replace hm := zif_t hc131 hm
    refine lv_aload_n hx hb d_Model_behind_134 rfl (lv_at hl 0 rfl) ?_
    obtain ⟨v135, hv, hm⟩ := zbd hm
    refine z_getR X hI F_Model_22 hv d_Model_behind_135 ?_
    refine lv_bipush (v := (nI 87)) hx hb d_Model_behind_138 (by decide) ?_
    refine lv_aload_n hx hb d_Model_behind_140 rfl (lv_at hl 0 rfl) ?_
    refine lv_iconst (v := (nI 0)) hx hb d_Model_behind_141 (by decide) ?_
    refine lv_iconst (v := (nI 0)) hx hb d_Model_behind_142 (by decide) ?_
    obtain ⟨v143, hv, hm⟩ := zbd hm
    obtain ⟨hq, hv⟩ := zcv_at hv
    refine z_ci hI (z_runV (As := [.int (nI 0), .int (nI 0)]) (rest := [.int (nI 87), .ref (G.1 v135)]) X hI hl.1 (c_Model_of l G K a0 (nI 0) (nI 0) h _ hv) C_Model_155 rfl hq (Nat.le_of_ble_eq_true rfl) ⟨Nat.le_of_ble_eq_true rfl, Nat.le_of_ble_eq_true rfl, Nat.zero_le _, Nat.zero_le _⟩ rfl d_Model_behind_143) (fun H locs hI => ?_)
    refine lv_if_ne (tgt := 169) hx hb d_Model_behind_146 (by decide) (fun hc146 => ?_) (fun hc146 => ?_)
    · replace hm := zif_f hc146 hm
      refine lv_aload_n hx hb d_Model_behind_169 rfl (lv_at hl 0 rfl) ?_
      obtain ⟨v170, hv, hm⟩ := zbd hm
      refine z_getR X hI F_Model_22 hv d_Model_behind_170 ?_
      refine lv_bipush (v := (nI 87)) hx hb d_Model_behind_173 (by decide) ?_
      obtain ⟨v175, hv, hm⟩ := zbd hm
      refine z_iald X hI hv d_Model_behind_175 ?_
      obtain ⟨h176, hv, hm⟩ := zbd hm
      refine z_iast X hI hv d_Model_behind_176 (fun H locs hI => ?_)
      obtain rfl := zs1 hm
      exact z_vret X hI d_Model_behind_177
    · replace hm := zif_t hc146 hm
      refine lv_aload_n hx hb d_Model_behind_149 rfl (lv_at hl 0 rfl) ?_
      refine lv_iconst (v := (nI 0)) hx hb d_Model_behind_150 (by decide) ?_
      refine lv_iconst (v := (nI 3)) hx hb d_Model_behind_151 (by decide) ?_
      obtain ⟨v152, hv, hm⟩ := zbd hm
      obtain ⟨hq, hv⟩ := zcv_at hv
      refine z_ci hI (z_runV (As := [.int (nI 0), .int (nI 3)]) (rest := [.int (nI 87), .ref (G.1 v135)]) X hI hl.1 (c_Model_of l G K a0 (nI 0) (nI 3) h _ hv) C_Model_155 rfl hq (Nat.le_of_ble_eq_true rfl) ⟨Nat.le_of_ble_eq_true rfl, Nat.le_of_ble_eq_true rfl, Nat.zero_le _, Nat.zero_le _⟩ rfl d_Model_behind_152) (fun H locs hI => ?_)
      refine lv_aload_n hx hb d_Model_behind_155 rfl (lv_at hl 0 rfl) ?_
      obtain ⟨v156, hv, hm⟩ := zbd hm
      refine z_getR X hI F_Model_22 hv d_Model_behind_156 ?_
      refine lv_bipush (v := (nI 86)) hx hb d_Model_behind_159 (by decide) ?_
      obtain ⟨v161, hv, hm⟩ := zbd hm
      refine z_iald X hI hv d_Model_behind_161 ?_
      refine lv_icmp_ne (tgt := 169) hx hb d_Model_behind_162 (by decide) (fun hc162 => ?_) (fun hc162 => ?_)
      · replace hm := zif_f hc162 hm
        refine lv_aload_n hx hb d_Model_behind_169 rfl (lv_at hl 0 rfl) ?_
        obtain ⟨v170, hv, hm⟩ := zbd hm
        refine z_getR X hI F_Model_22 hv d_Model_behind_170 ?_
        refine lv_bipush (v := (nI 87)) hx hb d_Model_behind_173 (by decide) ?_
        obtain ⟨v175, hv, hm⟩ := zbd hm
        refine z_iald X hI hv d_Model_behind_175 ?_
        obtain ⟨h176, hv, hm⟩ := zbd hm
        refine z_iast X hI hv d_Model_behind_176 (fun H locs hI => ?_)
        obtain rfl := zs1 hm
        exact z_vret X hI d_Model_behind_177
      · replace hm := zif_t hc162 hm
        refine lv_iconst (v := (nI 1)) hx hb d_Model_behind_165 (by decide) ?_
        refine lv_goto (tgt := 176) hx hb d_Model_behind_166 (by decide) ?_
        obtain ⟨h176, hv, hm⟩ := zbd hm
        refine z_iast X hI hv d_Model_behind_176 (fun H locs hI => ?_)
        obtain rfl := zs1 hm
        exact z_vret X hI d_Model_behind_177
set_option maxHeartbeats 4000000 in
set_option maxRecDepth 100000 in
theorem r_Model_behind_58 {p : Program} {l : Launch} {e : Env} {s : State} {m : MethodId} {args : Array Value} {below : List Frame} {meth : Method} {c : Code} {G : zG} {K : Nat} (X : zX p s m args meth c "AllHomeModel" prog_9_method_33_code 2 none G (zA G K)) {h' : zH} (a0 : Nat) (x1 : Int32) (h : zH) (k13 : (Int32 × zH) → Option zH) (hk13 : ∀ (w : Int32 × zH), k13 w = some h' → ∀ (H : Heap) (locs : List Loc) (ls : Array Slot), zI G K s (zA G K) H locs w.2 → lv_has ls 2 [(0, .ref (G.1 a0)), (1, .int w.1)] → W p l e (zR 2) s m args below meth c H locs 0 0 (MQ below (zQv G K h') args s 0 0 (zA G K)) (F0 m 13 ls [])) (hm : g_Model_behind_58 a0 x1 h k13 = some h') {H : Heap} {locs : List Loc} {ls : Array Slot} (hI : zI G K s (zA G K) H locs h) (hl : lv_has ls 2 [(0, .ref (G.1 a0)), (1, .int x1)]) : W p l e (zR 2) s m args below meth c H locs 0 0 (MQ below (zQv G K h') args s 0 0 (zA G K)) (F0 m 58 ls []) := by
  obtain ⟨hx, hb, hml, hown, hts, hr, hlocks, hK, hST, hNs⟩ := id X
  unfold g_Model_behind_58 at hm
  refine lv_aload_n hx hb d_Model_behind_58 rfl (lv_at hl 0 rfl) ?_
  refine lv_aload_n hx hb d_Model_behind_59 rfl (lv_at hl 0 rfl) ?_
  refine lv_iload_n hx hb d_Model_behind_60 rfl (lv_at hl 1 rfl) ?_
  refine lv_iconst (v := (nI 4)) hx hb d_Model_behind_61 (by decide) ?_
  obtain ⟨v62, hv, hm⟩ := zbd hm
  obtain ⟨hq, hv⟩ := zcv_at hv
  refine z_ci hI (z_runV (As := [.int x1, .int (nI 4)]) (rest := [.ref (G.1 a0)]) X hI hl.1 (c_Model_of l G K a0 x1 (nI 4) h _ hv) C_Model_155 rfl hq (Nat.le_of_ble_eq_true rfl) ⟨Nat.le_of_ble_eq_true rfl, Nat.le_of_ble_eq_true rfl, Nat.zero_le _, Nat.zero_le _⟩ rfl d_Model_behind_62) (fun H locs hI => ?_)
  refine lv_iconst (v := (nI 0)) hx hb d_Model_behind_65 (by decide) ?_
  refine lv_iconst (v := (nI 0)) hx hb d_Model_behind_66 (by decide) ?_
  obtain ⟨h67, hv, hm⟩ := zbd hm
  obtain ⟨hq, hv⟩ := zcv_at hv
  refine z_cv hI (z_runV (As := [.int v62, .int (nI 0), .int (nI 0)]) (rest := []) X hI hl.1 (c_Model_sendNote l G K a0 v62 (nI 0) (nI 0) h _ hv) C_Model_169 rfl hq (Nat.le_of_ble_eq_true rfl) ⟨Nat.le_of_ble_eq_true rfl, Nat.le_of_ble_eq_true rfl, Nat.zero_le _, Nat.zero_le _⟩ rfl d_Model_behind_67) (fun H locs hI => ?_)
  refine lv_aload_n hx hb d_Model_behind_70 rfl (lv_at hl 0 rfl) ?_
  refine lv_iload_n hx hb d_Model_behind_71 rfl (lv_at hl 1 rfl) ?_
  refine lv_iconst (v := (nI 5)) hx hb d_Model_behind_72 (by decide) ?_
  refine lv_iconst (v := (nI 0)) hx hb d_Model_behind_73 (by decide) ?_
  obtain ⟨h74, hv, hm⟩ := zbd hm
  obtain ⟨hq, hv⟩ := zcv_at hv
  refine z_cv hI (z_runV (As := [.int x1, .int (nI 5), .int (nI 0)]) (rest := []) X hI hl.1 (c_Model_become l G K a0 x1 (nI 5) (nI 0) h67 _ hv) C_Model_166 rfl hq (Nat.le_of_ble_eq_true rfl) ⟨Nat.le_of_ble_eq_true rfl, Nat.le_of_ble_eq_true rfl, Nat.zero_le _, Nat.zero_le _⟩ rfl d_Model_behind_74) (fun H locs hI => ?_)
  refine lv_aload_n hx hb d_Model_behind_77 rfl (lv_at hl 0 rfl) ?_
  refine lv_iload_n hx hb d_Model_behind_78 rfl (lv_at hl 1 rfl) ?_
  refine lv_iconst (v := (nI 4)) hx hb d_Model_behind_79 (by decide) ?_
  refine lv_iconst (v := (-1 : Int32)) hx hb d_Model_behind_80 (by decide) ?_
  obtain ⟨h81, hv, hm⟩ := zbd hm
  obtain ⟨hq, hv⟩ := zcv_at hv
  refine z_cv hI (z_runV (As := [.int x1, .int (nI 4), .int (-1 : Int32)]) (rest := []) X hI hl.1 (c_Model_become l G K a0 x1 (nI 4) (-1 : Int32) h74 _ hv) C_Model_166 rfl hq (Nat.le_of_ble_eq_true rfl) ⟨Nat.le_of_ble_eq_true rfl, Nat.le_of_ble_eq_true rfl, Nat.zero_le _, Nat.zero_le _⟩ rfl d_Model_behind_81) (fun H locs hI => ?_)
  refine lv_iinc (v := (x1 + (nI 1))) (lv' := [(1, .int (x1 + (nI 1))), (0, .ref (G.1 a0))]) hx hb d_Model_behind_84 hl (k := 1) rfl (congrArg (fun z => x1 + z) (show Int32.ofInt (1) = (nI 1) by decide)) (by decide) rfl (fun ls hl => ?_)
  refine lv_goto (tgt := 13) hx hb d_Model_behind_87 (by decide) ?_
  obtain ⟨g0, e0⟩ : ∃ z, z = (x1 + (nI 1)) := ⟨_, rfl⟩
  rw [← e0] at hm hl
  exact hk13 (g0, h81) hm _ _ _ hI (lv_sub hl [1, 0] rfl)
set_option maxHeartbeats 4000000 in
set_option maxRecDepth 100000 in
theorem r_Model_behind_13_b {p : Program} {l : Launch} {e : Env} {s : State} {m : MethodId} {args : Array Value} {below : List Frame} {meth : Method} {c : Code} {G : zG} {K : Nat} (X : zX p s m args meth c "AllHomeModel" prog_9_method_33_code 2 none G (zA G K)) {h' : zH} (a0 : Nat) (k13 : (Int32 × zH) → Option zH) (hk13 : ∀ (w : Int32 × zH), k13 w = some h' → ∀ (H : Heap) (locs : List Loc) (ls : Array Slot), zI G K s (zA G K) H locs w.2 → lv_has ls 2 [(0, .ref (G.1 a0)), (1, .int w.1)] → W p l e (zR 2) s m args below meth c H locs 0 0 (MQ below (zQv G K h') args s 0 0 (zA G K)) (F0 m 13 ls [])) (u : Int32 × zH) (hm : g_Model_behind_13 a0 k13 u = some h') {H : Heap} {locs : List Loc} {ls : Array Slot} (hI : zI G K s (zA G K) H locs u.2) (hl : lv_has ls 2 [(0, .ref (G.1 a0)), (1, .int u.1)]) : W p l e (zR 2) s m args below meth c H locs 0 0 (MQ below (zQv G K h') args s 0 0 (zA G K)) (F0 m 13 ls []) := by
  obtain ⟨hx, hb, hml, hown, hts, hr, hlocks, hK, hST, hNs⟩ := id X
  unfold g_Model_behind_13 at hm
  refine lv_iload_n hx hb d_Model_behind_13 rfl (lv_at hl 1 rfl) ?_
  refine lv_aload_n hx hb d_Model_behind_14 rfl (lv_at hl 0 rfl) ?_
  obtain ⟨v15, hv, hm⟩ := zbd hm
  refine z_getI X hI F_Model_78 hv d_Model_behind_15 ?_
  refine lv_icmp_ge (tgt := 90) hx hb d_Model_behind_18 (by decide) (fun hc18 => ?_) (fun hc18 => ?_)
  · replace hm := zif_t hc18 hm
    refine lv_aload_n hx hb d_Model_behind_90 rfl (lv_at hl 0 rfl) ?_
    obtain ⟨v91, hv, hm⟩ := zbd hm
    refine z_getR X hI F_Model_22 hv d_Model_behind_91 ?_
    refine lv_bipush (v := (nI 87)) hx hb d_Model_behind_94 (by decide) ?_
    refine lv_aload_n hx hb d_Model_behind_96 rfl (lv_at hl 0 rfl) ?_
    refine lv_iconst (v := (nI 0)) hx hb d_Model_behind_97 (by decide) ?_
    refine lv_iconst (v := (nI 0)) hx hb d_Model_behind_98 (by decide) ?_
    obtain ⟨v99, hv, hm⟩ := zbd hm
    obtain ⟨hq, hv⟩ := zcv_at hv
    refine z_ci hI (z_runV (As := [.int (nI 0), .int (nI 0)]) (rest := [.int (nI 87), .ref (G.1 v91)]) X hI hl.1 (c_Model_of l G K a0 (nI 0) (nI 0) u.2 _ hv) C_Model_155 rfl hq (Nat.le_of_ble_eq_true rfl) ⟨Nat.le_of_ble_eq_true rfl, Nat.le_of_ble_eq_true rfl, Nat.zero_le _, Nat.zero_le _⟩ rfl d_Model_behind_99) (fun H locs hI => ?_)
    refine lv_if_ne (tgt := 118) hx hb d_Model_behind_102 (by decide) (fun hc102 => ?_) (fun hc102 => ?_)
    · replace hm := zif_f hc102 hm
      refine lv_aload_n hx hb d_Model_behind_118 rfl (lv_at hl 0 rfl) ?_
      obtain ⟨v119, hv, hm⟩ := zbd hm
      refine z_getR X hI F_Model_22 hv d_Model_behind_119 ?_
      refine lv_bipush (v := (nI 87)) hx hb d_Model_behind_122 (by decide) ?_
      obtain ⟨v124, hv, hm⟩ := zbd hm
      refine z_iald X hI hv d_Model_behind_124 ?_
      obtain ⟨h125, hv, hm⟩ := zbd hm
      refine z_iast X hI hv d_Model_behind_125 (fun H locs hI => ?_)
      exact r_Model_behind_126 X a0 h125 hm hI (lv_sub hl [0] rfl)
    · replace hm := zif_t hc102 hm
      refine lv_aload_n hx hb d_Model_behind_105 rfl (lv_at hl 0 rfl) ?_
      refine lv_iconst (v := (nI 0)) hx hb d_Model_behind_106 (by decide) ?_
      refine lv_iconst (v := (nI 3)) hx hb d_Model_behind_107 (by decide) ?_
      obtain ⟨v108, hv, hm⟩ := zbd hm
      obtain ⟨hq, hv⟩ := zcv_at hv
      refine z_ci hI (z_runV (As := [.int (nI 0), .int (nI 3)]) (rest := [.int (nI 87), .ref (G.1 v91)]) X hI hl.1 (c_Model_of l G K a0 (nI 0) (nI 3) u.2 _ hv) C_Model_155 rfl hq (Nat.le_of_ble_eq_true rfl) ⟨Nat.le_of_ble_eq_true rfl, Nat.le_of_ble_eq_true rfl, Nat.zero_le _, Nat.zero_le _⟩ rfl d_Model_behind_108) (fun H locs hI => ?_)
      refine lv_if_gt (tgt := 118) hx hb d_Model_behind_111 (by decide) (fun hc111 => ?_) (fun hc111 => ?_)
      · replace hm := zif_t hc111 hm
        refine lv_aload_n hx hb d_Model_behind_118 rfl (lv_at hl 0 rfl) ?_
        obtain ⟨v119, hv, hm⟩ := zbd hm
        refine z_getR X hI F_Model_22 hv d_Model_behind_119 ?_
        refine lv_bipush (v := (nI 87)) hx hb d_Model_behind_122 (by decide) ?_
        obtain ⟨v124, hv, hm⟩ := zbd hm
        refine z_iald X hI hv d_Model_behind_124 ?_
        obtain ⟨h125, hv, hm⟩ := zbd hm
        refine z_iast X hI hv d_Model_behind_125 (fun H locs hI => ?_)
        exact r_Model_behind_126 X a0 h125 hm hI (lv_sub hl [0] rfl)
      · replace hm := zif_f hc111 hm
        refine lv_iconst (v := (nI 1)) hx hb d_Model_behind_114 (by decide) ?_
        refine lv_goto (tgt := 125) hx hb d_Model_behind_115 (by decide) ?_
        obtain ⟨h125, hv, hm⟩ := zbd hm
        refine z_iast X hI hv d_Model_behind_125 (fun H locs hI => ?_)
        exact r_Model_behind_126 X a0 h125 hm hI (lv_sub hl [0] rfl)
  · replace hm := zif_f hc18 hm
    refine lv_aload_n hx hb d_Model_behind_21 rfl (lv_at hl 0 rfl) ?_
    refine lv_iload_n hx hb d_Model_behind_22 rfl (lv_at hl 1 rfl) ?_
    refine lv_iconst (v := (nI 5)) hx hb d_Model_behind_23 (by decide) ?_
    obtain ⟨v24, hv, hm⟩ := zbd hm
    obtain ⟨hq, hv⟩ := zcv_at hv
    refine z_ci hI (z_runV (As := [.int u.1, .int (nI 5)]) (rest := []) X hI hl.1 (c_Model_of l G K a0 u.1 (nI 5) u.2 _ hv) C_Model_155 rfl hq (Nat.le_of_ble_eq_true rfl) ⟨Nat.le_of_ble_eq_true rfl, Nat.le_of_ble_eq_true rfl, Nat.zero_le _, Nat.zero_le _⟩ rfl d_Model_behind_24) (fun H locs hI => ?_)
    refine lv_iconst (v := (nI 1)) hx hb d_Model_behind_27 (by decide) ?_
    refine lv_icmp_ne (tgt := 84) hx hb d_Model_behind_28 (by decide) (fun hc28 => ?_) (fun hc28 => ?_)
    · replace hm := zif_f hc28 hm
      refine lv_iinc (v := (u.1 + (nI 1))) (lv' := [(1, .int (u.1 + (nI 1))), (0, .ref (G.1 a0))]) hx hb d_Model_behind_84 hl (k := 1) rfl (congrArg (fun z => u.1 + z) (show Int32.ofInt (1) = (nI 1) by decide)) (by decide) rfl (fun ls hl => ?_)
      refine lv_goto (tgt := 13) hx hb d_Model_behind_87 (by decide) ?_
      obtain ⟨g0, e0⟩ : ∃ z, z = (u.1 + (nI 1)) := ⟨_, rfl⟩
      rw [← e0] at hm hl
      obtain ⟨g1, e1⟩ : ∃ z, z = u.2 := ⟨_, rfl⟩
      rw [← e1] at hm hI
      exact hk13 (g0, g1) hm _ _ _ hI (lv_sub hl [1, 0] rfl)
    · replace hm := zif_t hc28 hm
      refine lv_aload_n hx hb d_Model_behind_31 rfl (lv_at hl 0 rfl) ?_
      refine lv_iload_n hx hb d_Model_behind_32 rfl (lv_at hl 1 rfl) ?_
      refine lv_iconst (v := (nI 0)) hx hb d_Model_behind_33 (by decide) ?_
      obtain ⟨v34, hv, hm⟩ := zbd hm
      obtain ⟨hq, hv⟩ := zcv_at hv
      refine z_ci hI (z_runV (As := [.int u.1, .int (nI 0)]) (rest := []) X hI hl.1 (c_Model_of l G K a0 u.1 (nI 0) u.2 _ hv) C_Model_155 rfl hq (Nat.le_of_ble_eq_true rfl) ⟨Nat.le_of_ble_eq_true rfl, Nat.le_of_ble_eq_true rfl, Nat.zero_le _, Nat.zero_le _⟩ rfl d_Model_behind_34) (fun H locs hI => ?_)
      refine lv_if_ne (tgt := 84) hx hb d_Model_behind_37 (by decide) (fun hc37 => ?_) (fun hc37 => ?_)
      · replace hm := zif_f hc37 hm
        refine lv_iinc (v := (u.1 + (nI 1))) (lv' := [(1, .int (u.1 + (nI 1))), (0, .ref (G.1 a0))]) hx hb d_Model_behind_84 hl (k := 1) rfl (congrArg (fun z => u.1 + z) (show Int32.ofInt (1) = (nI 1) by decide)) (by decide) rfl (fun ls hl => ?_)
        refine lv_goto (tgt := 13) hx hb d_Model_behind_87 (by decide) ?_
        obtain ⟨g0, e0⟩ : ∃ z, z = (u.1 + (nI 1)) := ⟨_, rfl⟩
        rw [← e0] at hm hl
        obtain ⟨g1, e1⟩ : ∃ z, z = u.2 := ⟨_, rfl⟩
        rw [← e1] at hm hI
        exact hk13 (g0, g1) hm _ _ _ hI (lv_sub hl [1, 0] rfl)
      · replace hm := zif_t hc37 hm
        refine lv_aload_n hx hb d_Model_behind_40 rfl (lv_at hl 0 rfl) ?_
        obtain ⟨v41, hv, hm⟩ := zbd hm
        refine z_getI X hI F_Model_134 hv d_Model_behind_41 ?_
        refine lv_bipush (v := (nI 6)) hx hb d_Model_behind_44 (by decide) ?_
        refine lv_icmp_eq (tgt := 58) hx hb d_Model_behind_46 (by decide) (fun hc46 => ?_) (fun hc46 => ?_)
        · replace hm := zif_t hc46 hm
          exact r_Model_behind_58 X a0 u.1 u.2 k13 hk13 hm hI (lv_sub hl [0, 1] rfl)
        · replace hm := zif_f hc46 hm
          refine lv_aload_n hx hb d_Model_behind_49 rfl (lv_at hl 0 rfl) ?_
          refine lv_iload_n hx hb d_Model_behind_50 rfl (lv_at hl 1 rfl) ?_
          refine lv_iconst (v := (nI 3)) hx hb d_Model_behind_51 (by decide) ?_
          obtain ⟨v52, hv, hm⟩ := zbd hm
          obtain ⟨hq, hv⟩ := zcv_at hv
          refine z_ci hI (z_runV (As := [.int u.1, .int (nI 3)]) (rest := []) X hI hl.1 (c_Model_of l G K a0 u.1 (nI 3) u.2 _ hv) C_Model_155 rfl hq (Nat.le_of_ble_eq_true rfl) ⟨Nat.le_of_ble_eq_true rfl, Nat.le_of_ble_eq_true rfl, Nat.zero_le _, Nat.zero_le _⟩ rfl d_Model_behind_52) (fun H locs hI => ?_)
          refine lv_if_ne (tgt := 84) hx hb d_Model_behind_55 (by decide) (fun hc55 => ?_) (fun hc55 => ?_)
          · replace hm := zif_f hc55 hm
            refine lv_iinc (v := (u.1 + (nI 1))) (lv' := [(1, .int (u.1 + (nI 1))), (0, .ref (G.1 a0))]) hx hb d_Model_behind_84 hl (k := 1) rfl (congrArg (fun z => u.1 + z) (show Int32.ofInt (1) = (nI 1) by decide)) (by decide) rfl (fun ls hl => ?_)
            refine lv_goto (tgt := 13) hx hb d_Model_behind_87 (by decide) ?_
            obtain ⟨g0, e0⟩ : ∃ z, z = (u.1 + (nI 1)) := ⟨_, rfl⟩
            rw [← e0] at hm hl
            obtain ⟨g1, e1⟩ : ∃ z, z = u.2 := ⟨_, rfl⟩
            rw [← e1] at hm hI
            exact hk13 (g0, g1) hm _ _ _ hI (lv_sub hl [1, 0] rfl)
          · replace hm := zif_t hc55 hm
            exact r_Model_behind_58 X a0 u.1 u.2 k13 hk13 hm hI (lv_sub hl [0, 1] rfl)
theorem r_Model_behind_13 {p : Program} {l : Launch} {e : Env} {s : State} {m : MethodId} {args : Array Value} {below : List Frame} {meth : Method} {c : Code} {G : zG} {K : Nat} (X : zX p s m args meth c "AllHomeModel" prog_9_method_33_code 2 none G (zA G K)) {h' : zH} (a0 : Nat) : ∀ (n : Nat) (w : Int32 × zH), zloop (g_Model_behind_13 a0) n w = some h' → ∀ (H : Heap) (locs : List Loc) (ls : Array Slot), zI G K s (zA G K) H locs w.2 → lv_has ls 2 [(0, .ref (G.1 a0)), (1, .int w.1)] → W p l e (zR 2) s m args below meth c H locs 0 0 (MQ below (zQv G K h') args s 0 0 (zA G K)) (F0 m 13 ls []) := by
  intro n
  induction n with
  | zero => intro w hm; cases hm
  | succ n ih => intro w hm H locs ls hI hl; exact r_Model_behind_13_b X a0 (zloop (g_Model_behind_13 a0) n) ih w (zls hm) hI hl
set_option maxHeartbeats 4000000 in
set_option maxRecDepth 100000 in
theorem r_Model_behind_0 {p : Program} {l : Launch} {e : Env} {s : State} {m : MethodId} {args : Array Value} {below : List Frame} {meth : Method} {c : Code} {G : zG} {K : Nat} (X : zX p s m args meth c "AllHomeModel" prog_9_method_33_code 2 none G (zA G K)) {h' : zH} (a0 : Nat) (h : zH) (hm : m_Model_behind a0 h = some h') {H : Heap} {locs : List Loc} {ls : Array Slot} (hI : zI G K s (zA G K) H locs h) (hl : lv_has ls 2 [(0, .ref (G.1 a0))]) : W p l e (zR 2) s m args below meth c H locs 0 0 (MQ below (zQv G K h') args s 0 0 (zA G K)) (F0 m 0 ls []) := by
  obtain ⟨hx, hb, hml, hown, hts, hr, hlocks, hK, hST, hNs⟩ := id X
  unfold m_Model_behind at hm
  refine lv_aload_n hx hb d_Model_behind_0 rfl (lv_at hl 0 rfl) ?_
  obtain ⟨v1, hv, hm⟩ := zbd hm
  refine z_getI X hI F_Model_134 hv d_Model_behind_1 ?_
  refine lv_iconst (v := (nI 2)) hx hb d_Model_behind_4 (by decide) ?_
  obtain ⟨v5, hv, hm⟩ := zbd hm
  refine z_ci hI (z_runS (As := [.int v1, .int (nI 2)]) (rest := []) X hI hl.1 (c_Model_isUnder l G K v1 (nI 2) h _ hv) C_Model_159 rfl (Nat.le_of_ble_eq_true rfl) ⟨Nat.le_of_ble_eq_true rfl, Nat.le_of_ble_eq_true rfl, Nat.zero_le _, Nat.zero_le _⟩ rfl d_Model_behind_5) (fun H locs hI => ?_)
  refine lv_if_eq (tgt := 126) hx hb d_Model_behind_8 (by decide) (fun hc8 => ?_) (fun hc8 => ?_)
  · replace hm := zif_t hc8 hm
    exact r_Model_behind_126 X a0 h hm hI (lv_sub hl [0] rfl)
  · replace hm := zif_f hc8 hm
    refine lv_iconst (v := (nI 1)) hx hb d_Model_behind_11 (by decide) ?_
    refine lv_istore_n (lv' := [(1, .int (nI 1)), (0, .ref (G.1 a0))]) hx hb d_Model_behind_12 rfl hl (by decide) rfl (fun ls hl => ?_)
    exact r_Model_behind_13 X a0 zN ((nI 1), h) hm _ _ _ hI (lv_sub hl [1, 0] rfl)
set_option maxHeartbeats 4000000 in
set_option maxRecDepth 100000 in
theorem c_Model_behind (l : Launch) (G : zG) (K : Nat) (a0 : Nat) (h : zH) (h' : zH) (hm : m_Model_behind a0 h = some h') : zMv l G K y_Model_behind prog_9_method_33_code 2 2 [.ref (G.1 a0)] h h' := zMet (by decide +kernel) (Nat.le_of_ble_eq_true rfl) (fun p e s m below meth c ls X hI hl => r_Model_behind_0 X a0 h hm hI hl)
