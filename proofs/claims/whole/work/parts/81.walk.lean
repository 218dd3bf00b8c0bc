-- walk of AllHome$Run.begin
theorem d_Run_begin_0 : decode prog_6_method_2_code 0 = .ok (.aload_n 0, 1) := by decide +kernel
theorem d_Run_begin_1 : decode prog_6_method_2_code 1 = .ok (.getfield 20, 3) := by decide +kernel
theorem d_Run_begin_4 : decode prog_6_method_2_code 4 = .ok (.aload_n 0, 1) := by decide +kernel
theorem d_Run_begin_5 : decode prog_6_method_2_code 5 = .ok (.getfield 9, 3) := by decide +kernel
theorem d_Run_begin_8 : decode prog_6_method_2_code 8 = .ok (.iload_n 2, 1) := by decide +kernel
theorem d_Run_begin_9 : decode prog_6_method_2_code 9 = .ok (.invokevirtual 24, 3) := by decide +kernel
theorem d_Run_begin_12 : decode prog_6_method_2_code 12 = .ok (.aload_n 0, 1) := by decide +kernel
theorem d_Run_begin_13 : decode prog_6_method_2_code 13 = .ok (.iload_n 1, 1) := by decide +kernel
theorem d_Run_begin_14 : decode prog_6_method_2_code 14 = .ok (.putfield 28, 3) := by decide +kernel
theorem d_Run_begin_17 : decode prog_6_method_2_code 17 = .ok (.aload_n 0, 1) := by decide +kernel
theorem d_Run_begin_18 : decode prog_6_method_2_code 18 = .ok (.iconst 0, 1) := by decide +kernel
theorem d_Run_begin_19 : decode prog_6_method_2_code 19 = .ok (.putfield 32, 3) := by decide +kernel
theorem d_Run_begin_22 : decode prog_6_method_2_code 22 = .ok (.aload_n 0, 1) := by decide +kernel
theorem d_Run_begin_23 : decode prog_6_method_2_code 23 = .ok (.bipush (-2), 2) := by decide +kernel
theorem d_Run_begin_25 : decode prog_6_method_2_code 25 = .ok (.putfield 35, 3) := by decide +kernel
theorem d_Run_begin_28 : decode prog_6_method_2_code 28 = .ok (.aload_n 0, 1) := by decide +kernel
theorem d_Run_begin_29 : decode prog_6_method_2_code 29 = .ok (.bipush (-2), 2) := by decide +kernel
theorem d_Run_begin_31 : decode prog_6_method_2_code 31 = .ok (.putfield 38, 3) := by decide +kernel
theorem d_Run_begin_34 : decode prog_6_method_2_code 34 = .ok (.return_, 1) := by decide +kernel
set_option maxHeartbeats 4000000 in
set_option maxRecDepth 100000 in
theorem r_Run_begin_0 {p : Program} {l : Launch} {e : Env} {s : State} {m : MethodId} {args : Array Value} {below : List Frame} {meth : Method} {c : Code} {G : zG} {K : Nat} (X : zX p s m args meth c "AllHome$Run" prog_6_method_2_code 3 none G (zA G K)) {h' : zH} (a0 : Nat) (x1 : Int32) (x2 : Int32) (h : zH) (hm : m_Run_begin a0 x1 x2 h = some h') {H : Heap} {locs : List Loc} {ls : Array Slot} (hI : zI G K s (zA G K) H locs h) (hl : lv_has ls 3 [(0, .ref (G.1 a0)), (1, .int x1), (2, .int x2)]) : W p l e (zR 2) s m args below meth c H locs 0 0 (MQ below (zQv G K h') args s 0 0 (zA G K)) (F0 m 0 ls []) := by
  obtain ⟨hx, hb, hml, hown, hts, hr, hlocks, hK, hST, hNs⟩ := id X
  unfold m_Run_begin at hm
  refine lv_aload_n hx hb d_Run_begin_0 rfl (lv_at hl 0 rfl) ?_
  obtain ⟨v1, hv, hm⟩ := zbd hm
  refine z_getR X hI F_Run_20 hv d_Run_begin_1 ?_
  refine lv_aload_n hx hb d_Run_begin_4 rfl (lv_at hl 0 rfl) ?_
  obtain ⟨v5, hv, hm⟩ := zbd hm
  refine z_getR X hI F_Run_9 hv d_Run_begin_5 ?_
  refine lv_iload_n hx hb d_Run_begin_8 rfl (lv_at hl 2 rfl) ?_
  obtain ⟨h9, hv, hm⟩ := zbd hm
  obtain ⟨hq, hv⟩ := zcv_at hv
  refine z_cv hI (z_runV (As := [.ref (G.1 v5), .int x2]) (rest := []) X hI hl.1 (c_Rules_begin l G K v1 v5 x2 h _ hv) C_Run_24 rfl hq (Nat.le_of_ble_eq_true rfl) ⟨Nat.le_of_ble_eq_true rfl, Nat.le_of_ble_eq_true rfl, Nat.zero_le _, Nat.zero_le _⟩ rfl d_Run_begin_9) (fun H locs hI => ?_)
  refine lv_aload_n hx hb d_Run_begin_12 rfl (lv_at hl 0 rfl) ?_
  refine lv_iload_n hx hb d_Run_begin_13 rfl (lv_at hl 1 rfl) ?_
  obtain ⟨h14, hv, hm⟩ := zbd hm
  refine z_putI X hI P_Run_28 hv d_Run_begin_14 (fun H locs hI => ?_)
  refine lv_aload_n hx hb d_Run_begin_17 rfl (lv_at hl 0 rfl) ?_
  refine lv_iconst (v := (nI 0)) hx hb d_Run_begin_18 (by decide) ?_
  obtain ⟨h19, hv, hm⟩ := zbd hm
  refine z_putI X hI P_Run_32 hv d_Run_begin_19 (fun H locs hI => ?_)
  refine lv_aload_n hx hb d_Run_begin_22 rfl (lv_at hl 0 rfl) ?_
  refine lv_bipush (v := (-2 : Int32)) hx hb d_Run_begin_23 (by decide) ?_
  obtain ⟨h25, hv, hm⟩ := zbd hm
  refine z_putI X hI P_Run_35 hv d_Run_begin_25 (fun H locs hI => ?_)
  refine lv_aload_n hx hb d_Run_begin_28 rfl (lv_at hl 0 rfl) ?_
  refine lv_bipush (v := (-2 : Int32)) hx hb d_Run_begin_29 (by decide) ?_
  obtain ⟨h31, hv, hm⟩ := zbd hm
  refine z_putI X hI P_Run_38 hv d_Run_begin_31 (fun H locs hI => ?_)
  obtain rfl := zs1 hm
  exact z_vret X hI d_Run_begin_34
set_option maxHeartbeats 4000000 in
set_option maxRecDepth 100000 in
theorem c_Run_begin (l : Launch) (G : zG) (K : Nat) (a0 : Nat) (x1 : Int32) (x2 : Int32) (h : zH) (h' : zH) (hm : m_Run_begin a0 x1 x2 h = some h') : zMv l G K y_Run_begin prog_6_method_2_code 3 2 [.ref (G.1 a0), .int x1, .int x2] h h' := zMet (by decide +kernel) (Nat.le_of_ble_eq_true rfl) (fun p e s m below meth c ls X hI hl => r_Run_begin_0 X a0 x1 x2 h hm hI hl)
-- walk of AllHome.run
theorem d_Home_run_0 : decode prog_1_method_8_code 0 = .ok (.aload_n 0, 1) := by decide +kernel
theorem d_Home_run_1 : decode prog_1_method_8_code 1 = .ok (.iload_n 1, 1) := by decide +kernel
theorem d_Home_run_2 : decode prog_1_method_8_code 2 = .ok (.invokevirtual 99, 3) := by decide +kernel
theorem d_Home_run_5 : decode prog_1_method_8_code 5 = .ok (.ifCond .ne 5, 3) := by decide +kernel
theorem d_Home_run_8 : decode prog_1_method_8_code 8 = .ok (.iconst (-1), 1) := by decide +kernel
theorem d_Home_run_9 : decode prog_1_method_8_code 9 = .ok (.ireturn, 1) := by decide +kernel
theorem d_Home_run_10 : decode prog_1_method_8_code 10 = .ok (.aload_n 0, 1) := by decide +kernel
theorem d_Home_run_11 : decode prog_1_method_8_code 11 = .ok (.getfield 16, 3) := by decide +kernel
theorem d_Home_run_14 : decode prog_1_method_8_code 14 = .ok (.invokevirtual 66, 3) := by decide +kernel
theorem d_Home_run_17 : decode prog_1_method_8_code 17 = .ok (.ifCond .ne 6, 3) := by decide +kernel
theorem d_Home_run_20 : decode prog_1_method_8_code 20 = .ok (.bipush (-5), 2) := by decide +kernel
theorem d_Home_run_22 : decode prog_1_method_8_code 22 = .ok (.ireturn, 1) := by decide +kernel
theorem d_Home_run_23 : decode prog_1_method_8_code 23 = .ok (.aload_n 0, 1) := by decide +kernel
theorem d_Home_run_24 : decode prog_1_method_8_code 24 = .ok (.getfield 63, 3) := by decide +kernel
theorem d_Home_run_27 : decode prog_1_method_8_code 27 = .ok (.iconst 4, 1) := by decide +kernel
theorem d_Home_run_28 : decode prog_1_method_8_code 28 = .ok (.if_icmp .lt 6, 3) := by decide +kernel
theorem d_Home_run_31 : decode prog_1_method_8_code 31 = .ok (.bipush (-3), 2) := by decide +kernel
theorem d_Home_run_33 : decode prog_1_method_8_code 33 = .ok (.ireturn, 1) := by decide +kernel
theorem d_Home_run_34 : decode prog_1_method_8_code 34 = .ok (.aload_n 0, 1) := by decide +kernel
theorem d_Home_run_35 : decode prog_1_method_8_code 35 = .ok (.getfield 25, 3) := by decide +kernel
theorem d_Home_run_38 : decode prog_1_method_8_code 38 = .ok (.aload_n 0, 1) := by decide +kernel
theorem d_Home_run_39 : decode prog_1_method_8_code 39 = .ok (.getfield 63, 3) := by decide +kernel
theorem d_Home_run_42 : decode prog_1_method_8_code 42 = .ok (.aaload, 1) := by decide +kernel
theorem d_Home_run_43 : decode prog_1_method_8_code 43 = .ok (.iload_n 1, 1) := by decide +kernel
theorem d_Home_run_44 : decode prog_1_method_8_code 44 = .ok (.aload_n 0, 1) := by decide +kernel
theorem d_Home_run_45 : decode prog_1_method_8_code 45 = .ok (.getfield 20, 3) := by decide +kernel
theorem d_Home_run_48 : decode prog_1_method_8_code 48 = .ok (.iload_n 1, 1) := by decide +kernel
theorem d_Home_run_49 : decode prog_1_method_8_code 49 = .ok (.iaload, 1) := by decide +kernel
theorem d_Home_run_50 : decode prog_1_method_8_code 50 = .ok (.invokevirtual 102, 3) := by decide +kernel
theorem d_Home_run_53 : decode prog_1_method_8_code 53 = .ok (.aload_n 0, 1) := by decide +kernel
theorem d_Home_run_54 : decode prog_1_method_8_code 54 = .ok (.dup, 1) := by decide +kernel
theorem d_Home_run_55 : decode prog_1_method_8_code 55 = .ok (.getfield 63, 3) := by decide +kernel
theorem d_Home_run_58 : decode prog_1_method_8_code 58 = .ok (.iconst 1, 1) := by decide +kernel
theorem d_Home_run_59 : decode prog_1_method_8_code 59 = .ok (.iadd, 1) := by decide +kernel
theorem d_Home_run_60 : decode prog_1_method_8_code 60 = .ok (.putfield 63, 3) := by decide +kernel
theorem d_Home_run_63 : decode prog_1_method_8_code 63 = .ok (.aload_n 0, 1) := by decide +kernel
theorem d_Home_run_64 : decode prog_1_method_8_code 64 = .ok (.getfield 63, 3) := by decide +kernel
theorem d_Home_run_67 : decode prog_1_method_8_code 67 = .ok (.iconst 1, 1) := by decide +kernel
theorem d_Home_run_68 : decode prog_1_method_8_code 68 = .ok (.isub, 1) := by decide +kernel
theorem d_Home_run_69 : decode prog_1_method_8_code 69 = .ok (.ireturn, 1) := by decide +kernel
set_option maxHeartbeats 4000000 in
set_option maxRecDepth 100000 in
theorem r_Home_run_0 {p : Program} {l : Launch} {e : Env} {s : State} {m : MethodId} {args : Array Value} {below : List Frame} {meth : Method} {c : Code} {G : zG} {K : Nat} (X : zX p s m args meth c "AllHome" prog_1_method_8_code 2 (some .int) G (zA G K)) {r : Int32} {h' : zH} (a0 : Nat) (x1 : Int32) (h : zH) (hm : m_Home_run a0 x1 h = some (r, h')) {H : Heap} {locs : List Loc} {ls : Array Slot} (hI : zI G K s (zA G K) H locs h) (hl : lv_has ls 2 [(0, .ref (G.1 a0)), (1, .int x1)]) : W p l e (zR 3) s m args below meth c H locs 0 0 (MQ below (zQi G K r h') args s 0 0 (zA G K)) (F0 m 0 ls []) := by
  obtain ⟨hx, hb, hml, hown, hts, hr, hlocks, hK, hST, hNs⟩ := id X
  unfold m_Home_run at hm
  refine lv_aload_n hx hb d_Home_run_0 rfl (lv_at hl 0 rfl) ?_
  refine lv_iload_n hx hb d_Home_run_1 rfl (lv_at hl 1 rfl) ?_
  obtain ⟨v2, hv, hm⟩ := zbd hm
  obtain ⟨hq, hv⟩ := zcv_at hv
  refine z_ci hI (z_runV (As := [.int x1]) (rest := []) X hI hl.1 (c_Home_isWay l G K a0 x1 h _ hv) C_Home_99 rfl hq (Nat.le_of_ble_eq_true rfl) ⟨Nat.le_of_ble_eq_true rfl, Nat.le_of_ble_eq_true rfl, Nat.zero_le _, Nat.zero_le _⟩ rfl d_Home_run_2) (fun H locs hI => ?_)
  refine lv_if_ne (tgt := 10) hx hb d_Home_run_5 (by decide) (fun hc5 => ?_) (fun hc5 => ?_)
  · replace hm := zif_f hc5 hm
    refine lv_aload_n hx hb d_Home_run_10 rfl (lv_at hl 0 rfl) ?_
    obtain ⟨v11, hv, hm⟩ := zbd hm
    refine z_getR X hI F_Home_16 hv d_Home_run_11 ?_
    obtain ⟨v14, hv, hm⟩ := zbd hm
    obtain ⟨hq, hv⟩ := zcv_at hv
    refine z_ci hI (z_runV (As := []) (rest := []) X hI hl.1 (c_Huts_size l G K v11 h _ hv) C_Home_66 rfl hq (Nat.le_of_ble_eq_true rfl) ⟨Nat.le_of_ble_eq_true rfl, Nat.le_of_ble_eq_true rfl, Nat.zero_le _, Nat.zero_le _⟩ rfl d_Home_run_14) (fun H locs hI => ?_)
    refine lv_if_ne (tgt := 23) hx hb d_Home_run_17 (by decide) (fun hc17 => ?_) (fun hc17 => ?_)
    · replace hm := zif_f hc17 hm
      refine lv_aload_n hx hb d_Home_run_23 rfl (lv_at hl 0 rfl) ?_
      obtain ⟨v24, hv, hm⟩ := zbd hm
      refine z_getI X hI F_Home_63 hv d_Home_run_24 ?_
      refine lv_iconst (v := (nI 4)) hx hb d_Home_run_27 (by decide) ?_
      refine lv_icmp_lt (tgt := 34) hx hb d_Home_run_28 (by decide) (fun hc28 => ?_) (fun hc28 => ?_)
      · replace hm := zif_t hc28 hm
        refine lv_aload_n hx hb d_Home_run_34 rfl (lv_at hl 0 rfl) ?_
        obtain ⟨v35, hv, hm⟩ := zbd hm
        refine z_getR X hI F_Home_25 hv d_Home_run_35 ?_
        refine lv_aload_n hx hb d_Home_run_38 rfl (lv_at hl 0 rfl) ?_
        obtain ⟨v39, hv, hm⟩ := zbd hm
        refine z_getI X hI F_Home_63 hv d_Home_run_39 ?_
        obtain ⟨v42, hv, hm⟩ := zbd hm
        refine z_aald X hI 3 (.object "AllHome$Run") rfl rfl hv d_Home_run_42 ?_
        refine lv_iload_n hx hb d_Home_run_43 rfl (lv_at hl 1 rfl) ?_
        refine lv_aload_n hx hb d_Home_run_44 rfl (lv_at hl 0 rfl) ?_
        obtain ⟨v45, hv, hm⟩ := zbd hm
        refine z_getR X hI F_Home_20 hv d_Home_run_45 ?_
        refine lv_iload_n hx hb d_Home_run_48 rfl (lv_at hl 1 rfl) ?_
        obtain ⟨v49, hv, hm⟩ := zbd hm
        refine z_iald X hI hv d_Home_run_49 ?_
        obtain ⟨h50, hv, hm⟩ := zbd hm
        obtain ⟨hq, hv⟩ := zcv_at hv
        refine z_cv hI (z_runV (As := [.int x1, .int v49]) (rest := []) X hI hl.1 (c_Run_begin l G K v42 x1 v49 h _ hv) C_Home_102 rfl hq (Nat.le_of_ble_eq_true rfl) ⟨Nat.le_of_ble_eq_true rfl, Nat.le_of_ble_eq_true rfl, Nat.zero_le _, Nat.zero_le _⟩ rfl d_Home_run_50) (fun H locs hI => ?_)
        refine lv_aload_n hx hb d_Home_run_53 rfl (lv_at hl 0 rfl) ?_
        refine lv_dup hx hb d_Home_run_54 rfl ?_
        obtain ⟨v55, hv, hm⟩ := zbd hm
        refine z_getI X hI F_Home_63 hv d_Home_run_55 ?_
        refine lv_iconst (v := (nI 1)) hx hb d_Home_run_58 (by decide) ?_
        refine lv_iadd hx hb d_Home_run_59 ?_
        obtain ⟨h60, hv, hm⟩ := zbd hm
        refine z_putI X hI P_Home_63 hv d_Home_run_60 (fun H locs hI => ?_)
        refine lv_aload_n hx hb d_Home_run_63 rfl (lv_at hl 0 rfl) ?_
        obtain ⟨v64, hv, hm⟩ := zbd hm
        refine z_getI X hI F_Home_63 hv d_Home_run_64 ?_
        refine lv_iconst (v := (nI 1)) hx hb d_Home_run_67 (by decide) ?_
        refine lv_isub hx hb d_Home_run_68 ?_
        obtain ⟨rfl, rfl⟩ := zs2 hm
        exact z_iret X hI d_Home_run_69
      · replace hm := zif_f hc28 hm
        refine lv_bipush (v := (-3 : Int32)) hx hb d_Home_run_31 (by decide) ?_
        obtain ⟨rfl, rfl⟩ := zs2 hm
        exact z_iret X hI d_Home_run_33
    · replace hm := zif_t hc17 hm
      refine lv_bipush (v := (-5 : Int32)) hx hb d_Home_run_20 (by decide) ?_
      obtain ⟨rfl, rfl⟩ := zs2 hm
      exact z_iret X hI d_Home_run_22
  · replace hm := zif_t hc5 hm
    refine lv_iconst (v := (-1 : Int32)) hx hb d_Home_run_8 (by decide) ?_
    obtain ⟨rfl, rfl⟩ := zs2 hm
    exact z_iret X hI d_Home_run_9
set_option maxHeartbeats 4000000 in
set_option maxRecDepth 100000 in
theorem c_Home_run (l : Launch) (G : zG) (K : Nat) (a0 : Nat) (x1 : Int32) (h : zH) (r : Int32) (h' : zH) (hm : m_Home_run a0 x1 h = some (r, h')) : zMi l G K y_Home_run prog_1_method_8_code 2 3 [.ref (G.1 a0), .int x1] h r h' := zMet (by decide +kernel) (Nat.le_of_ble_eq_true rfl) (fun p e s m below meth c ls X hI hl => r_Home_run_0 X a0 x1 h hm hI hl)
-- walk of AllHome.isRun
theorem d_Home_isRun_0 : decode prog_1_method_30_code 0 = .ok (.iload_n 1, 1) := by decide +kernel
theorem d_Home_isRun_1 : decode prog_1_method_30_code 1 = .ok (.ifCond .lt 15, 3) := by decide +kernel
theorem d_Home_isRun_4 : decode prog_1_method_30_code 4 = .ok (.iload_n 1, 1) := by decide +kernel
theorem d_Home_isRun_5 : decode prog_1_method_30_code 5 = .ok (.aload_n 0, 1) := by decide +kernel
theorem d_Home_isRun_6 : decode prog_1_method_30_code 6 = .ok (.getfield 63, 3) := by decide +kernel
theorem d_Home_isRun_9 : decode prog_1_method_30_code 9 = .ok (.if_icmp .ge 7, 3) := by decide +kernel
theorem d_Home_isRun_12 : decode prog_1_method_30_code 12 = .ok (.iconst 1, 1) := by decide +kernel
theorem d_Home_isRun_13 : decode prog_1_method_30_code 13 = .ok (.goto 4, 3) := by decide +kernel
theorem d_Home_isRun_16 : decode prog_1_method_30_code 16 = .ok (.iconst 0, 1) := by decide +kernel
theorem d_Home_isRun_17 : decode prog_1_method_30_code 17 = .ok (.ireturn, 1) := by decide +kernel
set_option maxHeartbeats 4000000 in
set_option maxRecDepth 100000 in
theorem r_Home_isRun_0 {p : Program} {l : Launch} {e : Env} {s : State} {m : MethodId} {args : Array Value} {below : List Frame} {meth : Method} {c : Code} {G : zG} {K : Nat} (X : zX p s m args meth c "AllHome" prog_1_method_30_code 2 (some .boolean) G (zA G K)) {r : Int32} (a0 : Nat) (x1 : Int32) (h : zH) (hm : m_Home_isRun a0 x1 h = some r) {H : Heap} {locs : List Loc} {ls : Array Slot} (hI : zI G K s (zA G K) H locs h) (hl : lv_has ls 2 [(0, .ref (G.1 a0)), (1, .int x1)]) : W p l e (zR 0) s m args below meth c H locs 0 0 (MQ below (zQi G K r h) args s 0 0 (zA G K)) (F0 m 0 ls []) := by
  obtain ⟨hx, hb, hml, hown, hts, hr, hlocks, hK, hST, hNs⟩ := id X
  unfold m_Home_isRun at hm
  refine lv_iload_n hx hb d_Home_isRun_0 rfl (lv_at hl 1 rfl) ?_
  refine lv_if_lt (tgt := 16) hx hb d_Home_isRun_1 (by decide) (fun hc1 => ?_) (fun hc1 => ?_)
  · replace hm := zif_t hc1 hm
    refine lv_iconst (v := (nI 0)) hx hb d_Home_isRun_16 (by decide) ?_
    obtain rfl := zs1 hm
    exact z_zret X hI (by decide) d_Home_isRun_17
  · replace hm := zif_f hc1 hm
    refine lv_iload_n hx hb d_Home_isRun_4 rfl (lv_at hl 1 rfl) ?_
    refine lv_aload_n hx hb d_Home_isRun_5 rfl (lv_at hl 0 rfl) ?_
    obtain ⟨v6, hv, hm⟩ := zbd hm
    refine z_getI X hI F_Home_63 hv d_Home_isRun_6 ?_
    refine lv_icmp_ge (tgt := 16) hx hb d_Home_isRun_9 (by decide) (fun hc9 => ?_) (fun hc9 => ?_)
    · replace hm := zif_t hc9 hm
      refine lv_iconst (v := (nI 0)) hx hb d_Home_isRun_16 (by decide) ?_
      obtain rfl := zs1 hm
      exact z_zret X hI (by decide) d_Home_isRun_17
    · replace hm := zif_f hc9 hm
      refine lv_iconst (v := (nI 1)) hx hb d_Home_isRun_12 (by decide) ?_
      refine lv_goto (tgt := 17) hx hb d_Home_isRun_13 (by decide) ?_
      obtain rfl := zs1 hm
      exact z_zret X hI (by decide) d_Home_isRun_17
set_option maxHeartbeats 4000000 in
set_option maxRecDepth 100000 in
theorem c_Home_isRun (l : Launch) (G : zG) (K : Nat) (a0 : Nat) (x1 : Int32) (h : zH) (r : Int32) (hm : m_Home_isRun a0 x1 h = some r) : zMz l G K y_Home_isRun prog_1_method_30_code 2 0 [.ref (G.1 a0), .int x1] h r h := zMet (by decide +kernel) (Nat.le_of_ble_eq_true rfl) (fun p e s m below meth c ls X hI hl => r_Home_isRun_0 X a0 x1 h hm hI hl)
-- walk of AllHome$Rules.partUnits
theorem d_Rules_partUnits_0 : decode prog_5_method_7_code 0 = .ok (.aload_n 0, 1) := by decide +kernel
theorem d_Rules_partUnits_1 : decode prog_5_method_7_code 1 = .ok (.bipush 68, 2) := by decide +kernel
theorem d_Rules_partUnits_3 : decode prog_5_method_7_code 3 = .ok (.iload_n 1, 1) := by decide +kernel
theorem d_Rules_partUnits_4 : decode prog_5_method_7_code 4 = .ok (.iadd, 1) := by decide +kernel
theorem d_Rules_partUnits_5 : decode prog_5_method_7_code 5 = .ok (.iaload, 1) := by decide +kernel
theorem d_Rules_partUnits_6 : decode prog_5_method_7_code 6 = .ok (.iconst 1, 1) := by decide +kernel
theorem d_Rules_partUnits_7 : decode prog_5_method_7_code 7 = .ok (.if_icmp .gt 23, 3) := by decide +kernel
theorem d_Rules_partUnits_10 : decode prog_5_method_7_code 10 = .ok (.aload_n 0, 1) := by decide +kernel
theorem d_Rules_partUnits_11 : decode prog_5_method_7_code 11 = .ok (.bipush 68, 2) := by decide +kernel
theorem d_Rules_partUnits_13 : decode prog_5_method_7_code 13 = .ok (.iload_n 1, 1) := by decide +kernel
theorem d_Rules_partUnits_14 : decode prog_5_method_7_code 14 = .ok (.iadd, 1) := by decide +kernel
theorem d_Rules_partUnits_15 : decode prog_5_method_7_code 15 = .ok (.dup2, 1) := by decide +kernel
theorem d_Rules_partUnits_16 : decode prog_5_method_7_code 16 = .ok (.iaload, 1) := by decide +kernel
theorem d_Rules_partUnits_17 : decode prog_5_method_7_code 17 = .ok (.bipush 64, 2) := by decide +kernel
theorem d_Rules_partUnits_19 : decode prog_5_method_7_code 19 = .ok (.iadd, 1) := by decide +kernel
theorem d_Rules_partUnits_20 : decode prog_5_method_7_code 20 = .ok (.iastore, 1) := by decide +kernel
theorem d_Rules_partUnits_21 : decode prog_5_method_7_code 21 = .ok (.aload_n 0, 1) := by decide +kernel
theorem d_Rules_partUnits_22 : decode prog_5_method_7_code 22 = .ok (.bipush 74, 2) := by decide +kernel
theorem d_Rules_partUnits_24 : decode prog_5_method_7_code 24 = .ok (.dup2, 1) := by decide +kernel
theorem d_Rules_partUnits_25 : decode prog_5_method_7_code 25 = .ok (.iaload, 1) := by decide +kernel
theorem d_Rules_partUnits_26 : decode prog_5_method_7_code 26 = .ok (.bipush 64, 2) := by decide +kernel
theorem d_Rules_partUnits_28 : decode prog_5_method_7_code 28 = .ok (.iadd, 1) := by decide +kernel
theorem d_Rules_partUnits_29 : decode prog_5_method_7_code 29 = .ok (.iastore, 1) := by decide +kernel
theorem d_Rules_partUnits_30 : decode prog_5_method_7_code 30 = .ok (.aload_n 0, 1) := by decide +kernel
theorem d_Rules_partUnits_31 : decode prog_5_method_7_code 31 = .ok (.bipush 68, 2) := by decide +kernel
theorem d_Rules_partUnits_33 : decode prog_5_method_7_code 33 = .ok (.iload_n 1, 1) := by decide +kernel
theorem d_Rules_partUnits_34 : decode prog_5_method_7_code 34 = .ok (.iadd, 1) := by decide +kernel
theorem d_Rules_partUnits_35 : decode prog_5_method_7_code 35 = .ok (.iaload, 1) := by decide +kernel
theorem d_Rules_partUnits_36 : decode prog_5_method_7_code 36 = .ok (.iconst 2, 1) := by decide +kernel
theorem d_Rules_partUnits_37 : decode prog_5_method_7_code 37 = .ok (.idiv, 1) := by decide +kernel
theorem d_Rules_partUnits_38 : decode prog_5_method_7_code 38 = .ok (.istore_n 2, 1) := by decide +kernel
theorem d_Rules_partUnits_39 : decode prog_5_method_7_code 39 = .ok (.aload_n 0, 1) := by decide +kernel
theorem d_Rules_partUnits_40 : decode prog_5_method_7_code 40 = .ok (.bipush 68, 2) := by decide +kernel
theorem d_Rules_partUnits_42 : decode prog_5_method_7_code 42 = .ok (.iload_n 1, 1) := by decide +kernel
theorem d_Rules_partUnits_43 : decode prog_5_method_7_code 43 = .ok (.iadd, 1) := by decide +kernel
theorem d_Rules_partUnits_44 : decode prog_5_method_7_code 44 = .ok (.dup2, 1) := by decide +kernel
theorem d_Rules_partUnits_45 : decode prog_5_method_7_code 45 = .ok (.iaload, 1) := by decide +kernel
theorem d_Rules_partUnits_46 : decode prog_5_method_7_code 46 = .ok (.iload_n 2, 1) := by decide +kernel
theorem d_Rules_partUnits_47 : decode prog_5_method_7_code 47 = .ok (.isub, 1) := by decide +kernel
theorem d_Rules_partUnits_48 : decode prog_5_method_7_code 48 = .ok (.iastore, 1) := by decide +kernel
theorem d_Rules_partUnits_49 : decode prog_5_method_7_code 49 = .ok (.iload_n 2, 1) := by decide +kernel
theorem d_Rules_partUnits_50 : decode prog_5_method_7_code 50 = .ok (.ireturn, 1) := by decide +kernel
set_option maxHeartbeats 4000000 in
set_option maxRecDepth 100000 in
theorem r_Rules_partUnits_30 {p : Program} {l : Launch} {e : Env} {s : State} {m : MethodId} {args : Array Value} {below : List Frame} {meth : Method} {c : Code} {G : zG} {K : Nat} (X : zX p s m args meth c "AllHome$Rules" prog_5_method_7_code 3 (some .int) G (zA G K)) {r : Int32} {h' : zH} (a0 : Nat) (x1 : Int32) (h : zH) (hm : g_Rules_partUnits_30 a0 x1 h = some (r, h')) {H : Heap} {locs : List Loc} {ls : Array Slot} (hI : zI G K s (zA G K) H locs h) (hl : lv_has ls 3 [(0, .ref (G.1 a0)), (1, .int x1)]) : W p l e (zR 0) s m args below meth c H locs 0 0 (MQ below (zQi G K r h') args s 0 0 (zA G K)) (F0 m 30 ls []) := by
  obtain ⟨hx, hb, hml, hown, hts, hr, hlocks, hK, hST, hNs⟩ := id X
  unfold g_Rules_partUnits_30 at hm
  refine lv_aload_n hx hb d_Rules_partUnits_30 rfl (lv_at hl 0 rfl) ?_
  refine lv_bipush (v := (nI 68)) hx hb d_Rules_partUnits_31 (by decide) ?_
  refine lv_iload_n hx hb d_Rules_partUnits_33 rfl (lv_at hl 1 rfl) ?_
  refine lv_iadd hx hb d_Rules_partUnits_34 ?_
  obtain ⟨v35, hv, hm⟩ := zbd hm
  refine z_iald X hI hv d_Rules_partUnits_35 ?_
  refine lv_iconst (v := (nI 2)) hx hb d_Rules_partUnits_36 (by decide) ?_
  refine lv_idiv hx hb d_Rules_partUnits_37 (by decide) ?_
  refine lv_istore_n (lv' := [(2, .int (v35 / (nI 2))), (0, .ref (G.1 a0)), (1, .int x1)]) hx hb d_Rules_partUnits_38 rfl hl (by decide) rfl (fun ls hl => ?_)
  refine lv_aload_n hx hb d_Rules_partUnits_39 rfl (lv_at hl 1 rfl) ?_
  refine lv_bipush (v := (nI 68)) hx hb d_Rules_partUnits_40 (by decide) ?_
  refine lv_iload_n hx hb d_Rules_partUnits_42 rfl (lv_at hl 2 rfl) ?_
  refine lv_iadd hx hb d_Rules_partUnits_43 ?_
  refine lv_dup2_11 hx hb d_Rules_partUnits_44 rfl rfl ?_
  obtain ⟨v45, hv, hm⟩ := zbd hm
  refine z_iald X hI hv d_Rules_partUnits_45 ?_
  refine lv_iload_n hx hb d_Rules_partUnits_46 rfl (lv_at hl 0 rfl) ?_
  refine lv_isub hx hb d_Rules_partUnits_47 ?_
  obtain ⟨h48, hv, hm⟩ := zbd hm
  refine z_iast X hI hv d_Rules_partUnits_48 (fun H locs hI => ?_)
  refine lv_iload_n hx hb d_Rules_partUnits_49 rfl (lv_at hl 0 rfl) ?_
  obtain ⟨rfl, rfl⟩ := zs2 hm
  exact z_iret X hI d_Rules_partUnits_50
set_option maxHeartbeats 4000000 in
set_option maxRecDepth 100000 in
theorem r_Rules_partUnits_0 {p : Program} {l : Launch} {e : Env} {s : State} {m : MethodId} {args : Array Value} {below : List Frame} {meth : Method} {c : Code} {G : zG} {K : Nat} (X : zX p s m args meth c "AllHome$Rules" prog_5_method_7_code 3 (some .int) G (zA G K)) {r : Int32} {h' : zH} (a0 : Nat) (x1 : Int32) (h : zH) (hm : m_Rules_partUnits a0 x1 h = some (r, h')) {H : Heap} {locs : List Loc} {ls : Array Slot} (hI : zI G K s (zA G K) H locs h) (hl : lv_has ls 3 [(0, .ref (G.1 a0)), (1, .int x1)]) : W p l e (zR 0) s m args below meth c H locs 0 0 (MQ below (zQi G K r h') args s 0 0 (zA G K)) (F0 m 0 ls []) := by
  obtain ⟨hx, hb, hml, hown, hts, hr, hlocks, hK, hST, hNs⟩ := id X
  unfold m_Rules_partUnits at hm
  refine lv_aload_n hx hb d_Rules_partUnits_0 rfl (lv_at hl 0 rfl) ?_
  refine lv_bipush (v := (nI 68)) hx hb d_Rules_partUnits_1 (by decide) ?_
  refine lv_iload_n hx hb d_Rules_partUnits_3 rfl (lv_at hl 1 rfl) ?_
  refine lv_iadd hx hb d_Rules_partUnits_4 ?_
  obtain ⟨v5, hv, hm⟩ := zbd hm
  refine z_iald X hI hv d_Rules_partUnits_5 ?_
  refine lv_iconst (v := (nI 1)) hx hb d_Rules_partUnits_6 (by decide) ?_
  refine lv_icmp_gt (tgt := 30) hx hb d_Rules_partUnits_7 (by decide) (fun hc7 => ?_) (fun hc7 => ?_)
  · replace hm := zif_t hc7 hm
    exact r_Rules_partUnits_30 X a0 x1 h hm hI (lv_sub hl [0, 1] rfl)
  · replace hm := zif_f hc7 hm
    refine lv_aload_n hx hb d_Rules_partUnits_10 rfl (lv_at hl 0 rfl) ?_
    refine lv_bipush (v := (nI 68)) hx hb d_Rules_partUnits_11 (by decide) ?_
    refine lv_iload_n hx hb d_Rules_partUnits_13 rfl (lv_at hl 1 rfl) ?_
    refine lv_iadd hx hb d_Rules_partUnits_14 ?_
    refine lv_dup2_11 hx hb d_Rules_partUnits_15 rfl rfl ?_
    obtain ⟨v16, hv, hm⟩ := zbd hm
    refine z_iald X hI hv d_Rules_partUnits_16 ?_
    refine lv_bipush (v := (nI 64)) hx hb d_Rules_partUnits_17 (by decide) ?_
    refine lv_iadd hx hb d_Rules_partUnits_19 ?_
    obtain ⟨h20, hv, hm⟩ := zbd hm
    refine z_iast X hI hv d_Rules_partUnits_20 (fun H locs hI => ?_)
    refine lv_aload_n hx hb d_Rules_partUnits_21 rfl (lv_at hl 0 rfl) ?_
    refine lv_bipush (v := (nI 74)) hx hb d_Rules_partUnits_22 (by decide) ?_
    refine lv_dup2_11 hx hb d_Rules_partUnits_24 rfl rfl ?_
    obtain ⟨v25, hv, hm⟩ := zbd hm
    refine z_iald X hI hv d_Rules_partUnits_25 ?_
    refine lv_bipush (v := (nI 64)) hx hb d_Rules_partUnits_26 (by decide) ?_
    refine lv_iadd hx hb d_Rules_partUnits_28 ?_
    obtain ⟨h29, hv, hm⟩ := zbd hm
    refine z_iast X hI hv d_Rules_partUnits_29 (fun H locs hI => ?_)
    exact r_Rules_partUnits_30 X a0 x1 h29 hm hI (lv_sub hl [0, 1] rfl)
set_option maxHeartbeats 4000000 in
set_option maxRecDepth 100000 in
theorem c_Rules_partUnits (l : Launch) (G : zG) (K : Nat) (a0 : Nat) (x1 : Int32) (h : zH) (r : Int32) (h' : zH) (hm : m_Rules_partUnits a0 x1 h = some (r, h')) : zMi l G K y_Rules_partUnits prog_5_method_7_code 3 0 [.ref (G.1 a0), .int x1] h r h' := zMet (by decide +kernel) (Nat.le_of_ble_eq_true rfl) (fun p e s m below meth c ls X hI hl => r_Rules_partUnits_0 X a0 x1 h hm hI hl)
-- walk of AllHome$Rules.send
theorem d_Rules_send_0 : decode prog_5_method_6_code 0 = .ok (.aload_n 1, 1) := by decide +kernel
theorem d_Rules_send_1 : decode prog_5_method_6_code 1 = .ok (.bipush 12, 2) := by decide +kernel
theorem d_Rules_send_3 : decode prog_5_method_6_code 3 = .ok (.iload_n 2, 1) := by decide +kernel
theorem d_Rules_send_4 : decode prog_5_method_6_code 4 = .ok (.iadd, 1) := by decide +kernel
theorem d_Rules_send_5 : decode prog_5_method_6_code 5 = .ok (.dup2, 1) := by decide +kernel
theorem d_Rules_send_6 : decode prog_5_method_6_code 6 = .ok (.iaload, 1) := by decide +kernel
theorem d_Rules_send_7 : decode prog_5_method_6_code 7 = .ok (.iconst 1, 1) := by decide +kernel
theorem d_Rules_send_8 : decode prog_5_method_6_code 8 = .ok (.iadd, 1) := by decide +kernel
theorem d_Rules_send_9 : decode prog_5_method_6_code 9 = .ok (.iastore, 1) := by decide +kernel
theorem d_Rules_send_10 : decode prog_5_method_6_code 10 = .ok (.aload_n 1, 1) := by decide +kernel
theorem d_Rules_send_11 : decode prog_5_method_6_code 11 = .ok (.bipush 121, 2) := by decide +kernel
theorem d_Rules_send_13 : decode prog_5_method_6_code 13 = .ok (.dup2, 1) := by decide +kernel
theorem d_Rules_send_14 : decode prog_5_method_6_code 14 = .ok (.iaload, 1) := by decide +kernel
theorem d_Rules_send_15 : decode prog_5_method_6_code 15 = .ok (.iconst 1, 1) := by decide +kernel
theorem d_Rules_send_16 : decode prog_5_method_6_code 16 = .ok (.iadd, 1) := by decide +kernel
theorem d_Rules_send_17 : decode prog_5_method_6_code 17 = .ok (.iastore, 1) := by decide +kernel
theorem d_Rules_send_18 : decode prog_5_method_6_code 18 = .ok (.iconst 0, 1) := by decide +kernel
theorem d_Rules_send_19 : decode prog_5_method_6_code 19 = .ok (.istore 4, 2) := by decide +kernel
theorem d_Rules_send_21 : decode prog_5_method_6_code 21 = .ok (.aload_n 0, 1) := by decide +kernel
theorem d_Rules_send_22 : decode prog_5_method_6_code 22 = .ok (.getfield 15, 3) := by decide +kernel
theorem d_Rules_send_25 : decode prog_5_method_6_code 25 = .ok (.tableswitch 84 1 5 #[35, 45, 84, 58, 71], 35) := by decide +kernel
theorem d_Rules_send_60 : decode prog_5_method_6_code 60 = .ok (.aload_n 1, 1) := by decide +kernel
theorem d_Rules_send_61 : decode prog_5_method_6_code 61 = .ok (.iload_n 2, 1) := by decide +kernel
theorem d_Rules_send_62 : decode prog_5_method_6_code 62 = .ok (.invokestatic 81, 3) := by decide +kernel
theorem d_Rules_send_65 : decode prog_5_method_6_code 65 = .ok (.istore 4, 2) := by decide +kernel
theorem d_Rules_send_67 : decode prog_5_method_6_code 67 = .ok (.goto 42, 3) := by decide +kernel
theorem d_Rules_send_70 : decode prog_5_method_6_code 70 = .ok (.aload_n 1, 1) := by decide +kernel
theorem d_Rules_send_71 : decode prog_5_method_6_code 71 = .ok (.bipush 75, 2) := by decide +kernel
theorem d_Rules_send_73 : decode prog_5_method_6_code 73 = .ok (.iload_n 2, 1) := by decide +kernel
theorem d_Rules_send_74 : decode prog_5_method_6_code 74 = .ok (.iadd, 1) := by decide +kernel
theorem d_Rules_send_75 : decode prog_5_method_6_code 75 = .ok (.dup2, 1) := by decide +kernel
theorem d_Rules_send_76 : decode prog_5_method_6_code 76 = .ok (.iaload, 1) := by decide +kernel
theorem d_Rules_send_77 : decode prog_5_method_6_code 77 = .ok (.iconst 1, 1) := by decide +kernel
theorem d_Rules_send_78 : decode prog_5_method_6_code 78 = .ok (.iadd, 1) := by decide +kernel
theorem d_Rules_send_79 : decode prog_5_method_6_code 79 = .ok (.iastore, 1) := by decide +kernel
theorem d_Rules_send_80 : decode prog_5_method_6_code 80 = .ok (.goto 29, 3) := by decide +kernel
theorem d_Rules_send_83 : decode prog_5_method_6_code 83 = .ok (.aload_n 1, 1) := by decide +kernel
theorem d_Rules_send_84 : decode prog_5_method_6_code 84 = .ok (.bipush 93, 2) := by decide +kernel
theorem d_Rules_send_86 : decode prog_5_method_6_code 86 = .ok (.iload_n 2, 1) := by decide +kernel
theorem d_Rules_send_87 : decode prog_5_method_6_code 87 = .ok (.iadd, 1) := by decide +kernel
theorem d_Rules_send_88 : decode prog_5_method_6_code 88 = .ok (.dup2, 1) := by decide +kernel
theorem d_Rules_send_89 : decode prog_5_method_6_code 89 = .ok (.iaload, 1) := by decide +kernel
theorem d_Rules_send_90 : decode prog_5_method_6_code 90 = .ok (.iconst 1, 1) := by decide +kernel
theorem d_Rules_send_91 : decode prog_5_method_6_code 91 = .ok (.iadd, 1) := by decide +kernel
theorem d_Rules_send_92 : decode prog_5_method_6_code 92 = .ok (.iastore, 1) := by decide +kernel
theorem d_Rules_send_93 : decode prog_5_method_6_code 93 = .ok (.goto 16, 3) := by decide +kernel
theorem d_Rules_send_96 : decode prog_5_method_6_code 96 = .ok (.aload_n 1, 1) := by decide +kernel
theorem d_Rules_send_97 : decode prog_5_method_6_code 97 = .ok (.bipush 105, 2) := by decide +kernel
theorem d_Rules_send_99 : decode prog_5_method_6_code 99 = .ok (.iload_n 2, 1) := by decide +kernel
theorem d_Rules_send_100 : decode prog_5_method_6_code 100 = .ok (.iadd, 1) := by decide +kernel
theorem d_Rules_send_101 : decode prog_5_method_6_code 101 = .ok (.dup2, 1) := by decide +kernel
theorem d_Rules_send_102 : decode prog_5_method_6_code 102 = .ok (.iaload, 1) := by decide +kernel
theorem d_Rules_send_103 : decode prog_5_method_6_code 103 = .ok (.iconst 1, 1) := by decide +kernel
theorem d_Rules_send_104 : decode prog_5_method_6_code 104 = .ok (.iadd, 1) := by decide +kernel
theorem d_Rules_send_105 : decode prog_5_method_6_code 105 = .ok (.iastore, 1) := by decide +kernel
theorem d_Rules_send_106 : decode prog_5_method_6_code 106 = .ok (.goto 3, 3) := by decide +kernel
theorem d_Rules_send_109 : decode prog_5_method_6_code 109 = .ok (.aload_n 0, 1) := by decide +kernel
theorem d_Rules_send_110 : decode prog_5_method_6_code 110 = .ok (.getfield 9, 3) := by decide +kernel
theorem d_Rules_send_113 : decode prog_5_method_6_code 113 = .ok (.iload_n 3, 1) := by decide +kernel
theorem d_Rules_send_114 : decode prog_5_method_6_code 114 = .ok (.invokevirtual 60, 3) := by decide +kernel
theorem d_Rules_send_117 : decode prog_5_method_6_code 117 = .ok (.ifCond .ne 5, 3) := by decide +kernel
theorem d_Rules_send_120 : decode prog_5_method_6_code 120 = .ok (.iconst 1, 1) := by decide +kernel
theorem d_Rules_send_121 : decode prog_5_method_6_code 121 = .ok (.ireturn, 1) := by decide +kernel
theorem d_Rules_send_122 : decode prog_5_method_6_code 122 = .ok (.aload_n 1, 1) := by decide +kernel
theorem d_Rules_send_123 : decode prog_5_method_6_code 123 = .ok (.bipush 18, 2) := by decide +kernel
theorem d_Rules_send_125 : decode prog_5_method_6_code 125 = .ok (.iaload, 1) := by decide +kernel
theorem d_Rules_send_126 : decode prog_5_method_6_code 126 = .ok (.istore 5, 2) := by decide +kernel
theorem d_Rules_send_128 : decode prog_5_method_6_code 128 = .ok (.iload 5, 2) := by decide +kernel
theorem d_Rules_send_130 : decode prog_5_method_6_code 130 = .ok (.ifCond .lt 10, 3) := by decide +kernel
theorem d_Rules_send_133 : decode prog_5_method_6_code 133 = .ok (.iload 5, 2) := by decide +kernel
theorem d_Rules_send_135 : decode prog_5_method_6_code 135 = .ok (.bipush 8, 2) := by decide +kernel
theorem d_Rules_send_137 : decode prog_5_method_6_code 137 = .ok (.if_icmp .lt 6, 3) := by decide +kernel
theorem d_Rules_send_140 : decode prog_5_method_6_code 140 = .ok (.bipush (-3), 2) := by decide +kernel
theorem d_Rules_send_142 : decode prog_5_method_6_code 142 = .ok (.ireturn, 1) := by decide +kernel
theorem d_Rules_send_143 : decode prog_5_method_6_code 143 = .ok (.aload_n 1, 1) := by decide +kernel
theorem d_Rules_send_144 : decode prog_5_method_6_code 144 = .ok (.bipush 19, 2) := by decide +kernel
theorem d_Rules_send_146 : decode prog_5_method_6_code 146 = .ok (.iload 5, 2) := by decide +kernel
theorem d_Rules_send_148 : decode prog_5_method_6_code 148 = .ok (.iadd, 1) := by decide +kernel
theorem d_Rules_send_149 : decode prog_5_method_6_code 149 = .ok (.iload_n 2, 1) := by decide +kernel
theorem d_Rules_send_150 : decode prog_5_method_6_code 150 = .ok (.iastore, 1) := by decide +kernel
theorem d_Rules_send_151 : decode prog_5_method_6_code 151 = .ok (.aload_n 1, 1) := by decide +kernel
theorem d_Rules_send_152 : decode prog_5_method_6_code 152 = .ok (.bipush 27, 2) := by decide +kernel
theorem d_Rules_send_154 : decode prog_5_method_6_code 154 = .ok (.iload 5, 2) := by decide +kernel
theorem d_Rules_send_156 : decode prog_5_method_6_code 156 = .ok (.iadd, 1) := by decide +kernel
theorem d_Rules_send_157 : decode prog_5_method_6_code 157 = .ok (.iload_n 3, 1) := by decide +kernel
theorem d_Rules_send_158 : decode prog_5_method_6_code 158 = .ok (.iastore, 1) := by decide +kernel
theorem d_Rules_send_159 : decode prog_5_method_6_code 159 = .ok (.aload_n 1, 1) := by decide +kernel
theorem d_Rules_send_160 : decode prog_5_method_6_code 160 = .ok (.bipush 35, 2) := by decide +kernel
theorem d_Rules_send_162 : decode prog_5_method_6_code 162 = .ok (.iload 5, 2) := by decide +kernel
theorem d_Rules_send_164 : decode prog_5_method_6_code 164 = .ok (.iadd, 1) := by decide +kernel
theorem d_Rules_send_165 : decode prog_5_method_6_code 165 = .ok (.iload 4, 2) := by decide +kernel
theorem d_Rules_send_167 : decode prog_5_method_6_code 167 = .ok (.iastore, 1) := by decide +kernel
theorem d_Rules_send_168 : decode prog_5_method_6_code 168 = .ok (.aload_n 1, 1) := by decide +kernel
theorem d_Rules_send_169 : decode prog_5_method_6_code 169 = .ok (.bipush 18, 2) := by decide +kernel
theorem d_Rules_send_171 : decode prog_5_method_6_code 171 = .ok (.iload 5, 2) := by decide +kernel
theorem d_Rules_send_173 : decode prog_5_method_6_code 173 = .ok (.iconst 1, 1) := by decide +kernel
theorem d_Rules_send_174 : decode prog_5_method_6_code 174 = .ok (.iadd, 1) := by decide +kernel
theorem d_Rules_send_175 : decode prog_5_method_6_code 175 = .ok (.iastore, 1) := by decide +kernel
theorem d_Rules_send_176 : decode prog_5_method_6_code 176 = .ok (.iconst 1, 1) := by decide +kernel
theorem d_Rules_send_177 : decode prog_5_method_6_code 177 = .ok (.ireturn, 1) := by decide +kernel
set_option maxHeartbeats 4000000 in
set_option maxRecDepth 100000 in
theorem r_Rules_send_109 {p : Program} {l : Launch} {e : Env} {s : State} {m : MethodId} {args : Array Value} {below : List Frame} {meth : Method} {c : Code} {G : zG} {K : Nat} (X : zX p s m args meth c "AllHome$Rules" prog_5_method_6_code 6 (some .int) G (zA G K)) {r : Int32} {h' : zH} (a0 : Nat) (a1 : Nat) (x2 : Int32) (x3 : Int32) (x4 : Int32) (h : zH) (hm : g_Rules_send_109 a0 a1 x2 x3 x4 h = some (r, h')) {H : Heap} {locs : List Loc} {ls : Array Slot} (hI : zI G K s (zA G K) H locs h) (hl : lv_has ls 6 [(0, .ref (G.1 a0)), (1, .ref (G.1 a1)), (2, .int x2), (3, .int x3), (4, .int x4)]) : W p l e (zR 1) s m args below meth c H locs 0 0 (MQ below (zQi G K r h') args s 0 0 (zA G K)) (F0 m 109 ls []) := by
  obtain ⟨hx, hb, hml, hown, hts, hr, hlocks, hK, hST, hNs⟩ := id X
  unfold g_Rules_send_109 at hm
  refine lv_aload_n hx hb d_Rules_send_109 rfl (lv_at hl 0 rfl) ?_
  obtain ⟨v110, hv, hm⟩ := zbd hm
  refine z_getR X hI F_Rules_9 hv d_Rules_send_110 ?_
  refine lv_iload_n hx hb d_Rules_send_113 rfl (lv_at hl 3 rfl) ?_
  obtain ⟨v114, hv, hm⟩ := zbd hm
  obtain ⟨hq, hv⟩ := zcv_at hv
  refine z_ci hI (z_runV (As := [.int x3]) (rest := []) X hI hl.1 (c_Huts_has l G K v110 x3 h _ hv) C_Rules_60 rfl hq (Nat.le_of_ble_eq_true rfl) ⟨Nat.le_of_ble_eq_true rfl, Nat.le_of_ble_eq_true rfl, Nat.zero_le _, Nat.zero_le _⟩ rfl d_Rules_send_114) (fun H locs hI => ?_)
  refine lv_if_ne (tgt := 122) hx hb d_Rules_send_117 (by decide) (fun hc117 => ?_) (fun hc117 => ?_)
  · replace hm := zif_f hc117 hm
    refine lv_aload_n hx hb d_Rules_send_122 rfl (lv_at hl 1 rfl) ?_
    refine lv_bipush (v := (nI 18)) hx hb d_Rules_send_123 (by decide) ?_
    obtain ⟨v125, hv, hm⟩ := zbd hm
    refine z_iald X hI hv d_Rules_send_125 ?_
    refine lv_istore (lv' := [(5, .int v125), (0, .ref (G.1 a0)), (1, .ref (G.1 a1)), (2, .int x2), (3, .int x3), (4, .int x4)]) hx hb d_Rules_send_126 hl (by decide) rfl (fun ls hl => ?_)
    refine lv_iload hx hb d_Rules_send_128 (lv_at hl 0 rfl) ?_
    refine lv_if_lt (tgt := 140) hx hb d_Rules_send_130 (by decide) (fun hc130 => ?_) (fun hc130 => ?_)
    · replace hm := zif_t hc130 hm
      refine lv_bipush (v := (-3 : Int32)) hx hb d_Rules_send_140 (by decide) ?_
      obtain ⟨rfl, rfl⟩ := zs2 hm
      exact z_iret X hI d_Rules_send_142
    · replace hm := zif_f hc130 hm
      refine lv_iload hx hb d_Rules_send_133 (lv_at hl 0 rfl) ?_
      refine lv_bipush (v := (nI 8)) hx hb d_Rules_send_135 (by decide) ?_
      refine lv_icmp_lt (tgt := 143) hx hb d_Rules_send_137 (by decide) (fun hc137 => ?_) (fun hc137 => ?_)
      · replace hm := zif_t hc137 hm
        refine lv_aload_n hx hb d_Rules_send_143 rfl (lv_at hl 2 rfl) ?_
        refine lv_bipush (v := (nI 19)) hx hb d_Rules_send_144 (by decide) ?_
        refine lv_iload hx hb d_Rules_send_146 (lv_at hl 0 rfl) ?_
        refine lv_iadd hx hb d_Rules_send_148 ?_
        refine lv_iload_n hx hb d_Rules_send_149 rfl (lv_at hl 3 rfl) ?_
        obtain ⟨h150, hv, hm⟩ := zbd hm
        refine z_iast X hI hv d_Rules_send_150 (fun H locs hI => ?_)
        refine lv_aload_n hx hb d_Rules_send_151 rfl (lv_at hl 2 rfl) ?_
        refine lv_bipush (v := (nI 27)) hx hb d_Rules_send_152 (by decide) ?_
        refine lv_iload hx hb d_Rules_send_154 (lv_at hl 0 rfl) ?_
        refine lv_iadd hx hb d_Rules_send_156 ?_
        refine lv_iload_n hx hb d_Rules_send_157 rfl (lv_at hl 4 rfl) ?_
        obtain ⟨h158, hv, hm⟩ := zbd hm
        refine z_iast X hI hv d_Rules_send_158 (fun H locs hI => ?_)
        refine lv_aload_n hx hb d_Rules_send_159 rfl (lv_at hl 2 rfl) ?_
        refine lv_bipush (v := (nI 35)) hx hb d_Rules_send_160 (by decide) ?_
        refine lv_iload hx hb d_Rules_send_162 (lv_at hl 0 rfl) ?_
        refine lv_iadd hx hb d_Rules_send_164 ?_
        refine lv_iload hx hb d_Rules_send_165 (lv_at hl 5 rfl) ?_
        obtain ⟨h167, hv, hm⟩ := zbd hm
        refine z_iast X hI hv d_Rules_send_167 (fun H locs hI => ?_)
        refine lv_aload_n hx hb d_Rules_send_168 rfl (lv_at hl 2 rfl) ?_
        refine lv_bipush (v := (nI 18)) hx hb d_Rules_send_169 (by decide) ?_
        refine lv_iload hx hb d_Rules_send_171 (lv_at hl 0 rfl) ?_
        refine lv_iconst (v := (nI 1)) hx hb d_Rules_send_173 (by decide) ?_
        refine lv_iadd hx hb d_Rules_send_174 ?_
        obtain ⟨h175, hv, hm⟩ := zbd hm
        refine z_iast X hI hv d_Rules_send_175 (fun H locs hI => ?_)
        refine lv_iconst (v := (nI 1)) hx hb d_Rules_send_176 (by decide) ?_
        obtain ⟨rfl, rfl⟩ := zs2 hm
        exact z_iret X hI d_Rules_send_177
      · replace hm := zif_f hc137 hm
        refine lv_bipush (v := (-3 : Int32)) hx hb d_Rules_send_140 (by decide) ?_
        obtain ⟨rfl, rfl⟩ := zs2 hm
        exact z_iret X hI d_Rules_send_142
  · replace hm := zif_t hc117 hm
    refine lv_iconst (v := (nI 1)) hx hb d_Rules_send_120 (by decide) ?_
    obtain ⟨rfl, rfl⟩ := zs2 hm
    exact z_iret X hI d_Rules_send_121
set_option maxHeartbeats 4000000 in
set_option maxRecDepth 100000 in
theorem r_Rules_send_0 {p : Program} {l : Launch} {e : Env} {s : State} {m : MethodId} {args : Array Value} {below : List Frame} {meth : Method} {c : Code} {G : zG} {K : Nat} (X : zX p s m args meth c "AllHome$Rules" prog_5_method_6_code 6 (some .int) G (zA G K)) {r : Int32} {h' : zH} (a0 : Nat) (a1 : Nat) (x2 : Int32) (x3 : Int32) (h : zH) (hm : m_Rules_send a0 a1 x2 x3 h = some (r, h')) {H : Heap} {locs : List Loc} {ls : Array Slot} (hI : zI G K s (zA G K) H locs h) (hl : lv_has ls 6 [(0, .ref (G.1 a0)), (1, .ref (G.1 a1)), (2, .int x2), (3, .int x3)]) : W p l e (zR 1) s m args below meth c H locs 0 0 (MQ below (zQi G K r h') args s 0 0 (zA G K)) (F0 m 0 ls []) := by
  obtain ⟨hx, hb, hml, hown, hts, hr, hlocks, hK, hST, hNs⟩ := id X
  unfold m_Rules_send at hm
  refine lv_aload_n hx hb d_Rules_send_0 rfl (lv_at hl 1 rfl) ?_
  refine lv_bipush (v := (nI 12)) hx hb d_Rules_send_1 (by decide) ?_
  refine lv_iload_n hx hb d_Rules_send_3 rfl (lv_at hl 2 rfl) ?_
  refine lv_iadd hx hb d_Rules_send_4 ?_
  refine lv_dup2_11 hx hb d_Rules_send_5 rfl rfl ?_
  obtain ⟨v6, hv, hm⟩ := zbd hm
  refine z_iald X hI hv d_Rules_send_6 ?_
  refine lv_iconst (v := (nI 1)) hx hb d_Rules_send_7 (by decide) ?_
  refine lv_iadd hx hb d_Rules_send_8 ?_
  obtain ⟨h9, hv, hm⟩ := zbd hm
  refine z_iast X hI hv d_Rules_send_9 (fun H locs hI => ?_)
  refine lv_aload_n hx hb d_Rules_send_10 rfl (lv_at hl 1 rfl) ?_
  refine lv_bipush (v := (nI 121)) hx hb d_Rules_send_11 (by decide) ?_
  refine lv_dup2_11 hx hb d_Rules_send_13 rfl rfl ?_
  obtain ⟨v14, hv, hm⟩ := zbd hm
  refine z_iald X hI hv d_Rules_send_14 ?_
  refine lv_iconst (v := (nI 1)) hx hb d_Rules_send_15 (by decide) ?_
  refine lv_iadd hx hb d_Rules_send_16 ?_
  obtain ⟨h17, hv, hm⟩ := zbd hm
  refine z_iast X hI hv d_Rules_send_17 (fun H locs hI => ?_)
  refine lv_iconst (v := (nI 0)) hx hb d_Rules_send_18 (by decide) ?_
  refine lv_istore (lv' := [(4, .int (nI 0)), (0, .ref (G.1 a0)), (1, .ref (G.1 a1)), (2, .int x2), (3, .int x3)]) hx hb d_Rules_send_19 hl (by decide) rfl (fun ls hl => ?_)
  refine lv_aload_n hx hb d_Rules_send_21 rfl (lv_at hl 1 rfl) ?_
  obtain ⟨v22, hv, hm⟩ := zbd hm
  refine z_getI X hI F_Rules_15 hv d_Rules_send_22 ?_
  by_cases hs25_0 : v22 = (nI 1)
  · replace hm := zif_t hs25_0 hm
    refine lv_tableIn (off := 35) (tgt := 60) hx hb d_Rules_send_25 (by rw [hs25_0]; decide) (by rw [hs25_0]; decide) (by rw [hs25_0]; rfl) (by decide) ?_
    refine lv_aload_n hx hb d_Rules_send_60 rfl (lv_at hl 2 rfl) ?_
    refine lv_iload_n hx hb d_Rules_send_61 rfl (lv_at hl 3 rfl) ?_
    obtain ⟨v62, h62, hv, hm⟩ := zb2_at hm
    refine z_ci hI (z_runS (As := [.ref (G.1 a1), .int x2]) (rest := []) X hI hl.1 (c_Rules_partUnits l G K a1 x2 h17 _ _ hv) C_Rules_81 rfl (Nat.le_of_ble_eq_true rfl) ⟨Nat.le_of_ble_eq_true rfl, Nat.le_of_ble_eq_true rfl, Nat.zero_le _, Nat.zero_le _⟩ rfl d_Rules_send_62) (fun H locs hI => ?_)
    refine lv_istore (lv' := [(4, .int v62), (0, .ref (G.1 a0)), (1, .ref (G.1 a1)), (2, .int x2), (3, .int x3)]) hx hb d_Rules_send_65 hl (by decide) rfl (fun ls hl => ?_)
    refine lv_goto (tgt := 109) hx hb d_Rules_send_67 (by decide) ?_
    exact r_Rules_send_109 X a0 a1 x2 x3 v62 h62 hm hI (lv_sub hl [1, 2, 3, 4, 0] rfl)
  · replace hm := zif_f hs25_0 hm
    by_cases hs25_1 : v22 = (nI 2)
    · replace hm := zif_t hs25_1 hm
      refine lv_tableIn (off := 45) (tgt := 70) hx hb d_Rules_send_25 (by rw [hs25_1]; decide) (by rw [hs25_1]; decide) (by rw [hs25_1]; rfl) (by decide) ?_
      refine lv_aload_n hx hb d_Rules_send_70 rfl (lv_at hl 2 rfl) ?_
      refine lv_bipush (v := (nI 75)) hx hb d_Rules_send_71 (by decide) ?_
      refine lv_iload_n hx hb d_Rules_send_73 rfl (lv_at hl 3 rfl) ?_
      refine lv_iadd hx hb d_Rules_send_74 ?_
      refine lv_dup2_11 hx hb d_Rules_send_75 rfl rfl ?_
      obtain ⟨v76, hv, hm⟩ := zbd hm
      refine z_iald X hI hv d_Rules_send_76 ?_
      refine lv_iconst (v := (nI 1)) hx hb d_Rules_send_77 (by decide) ?_
      refine lv_iadd hx hb d_Rules_send_78 ?_
      obtain ⟨h79, hv, hm⟩ := zbd hm
      refine z_iast X hI hv d_Rules_send_79 (fun H locs hI => ?_)
      refine lv_goto (tgt := 109) hx hb d_Rules_send_80 (by decide) ?_
      exact r_Rules_send_109 X a0 a1 x2 x3 (nI 0) h79 hm hI (lv_sub hl [1, 2, 3, 4, 0] rfl)
    · replace hm := zif_f hs25_1 hm
      by_cases hs25_2 : v22 = (nI 3)
      · replace hm := zif_t hs25_2 hm
        refine lv_tableIn (off := 84) (tgt := 109) hx hb d_Rules_send_25 (by rw [hs25_2]; decide) (by rw [hs25_2]; decide) (by rw [hs25_2]; rfl) (by decide) ?_
        exact r_Rules_send_109 X a0 a1 x2 x3 (nI 0) h17 hm hI (lv_sub hl [1, 2, 3, 4, 0] rfl)
      · replace hm := zif_f hs25_2 hm
        by_cases hs25_3 : v22 = (nI 4)
        · replace hm := zif_t hs25_3 hm
          refine lv_tableIn (off := 58) (tgt := 83) hx hb d_Rules_send_25 (by rw [hs25_3]; decide) (by rw [hs25_3]; decide) (by rw [hs25_3]; rfl) (by decide) ?_
          refine lv_aload_n hx hb d_Rules_send_83 rfl (lv_at hl 2 rfl) ?_
          refine lv_bipush (v := (nI 93)) hx hb d_Rules_send_84 (by decide) ?_
          refine lv_iload_n hx hb d_Rules_send_86 rfl (lv_at hl 3 rfl) ?_
          refine lv_iadd hx hb d_Rules_send_87 ?_
          refine lv_dup2_11 hx hb d_Rules_send_88 rfl rfl ?_
          obtain ⟨v89, hv, hm⟩ := zbd hm
          refine z_iald X hI hv d_Rules_send_89 ?_
          refine lv_iconst (v := (nI 1)) hx hb d_Rules_send_90 (by decide) ?_
          refine lv_iadd hx hb d_Rules_send_91 ?_
          obtain ⟨h92, hv, hm⟩ := zbd hm
          refine z_iast X hI hv d_Rules_send_92 (fun H locs hI => ?_)
          refine lv_goto (tgt := 109) hx hb d_Rules_send_93 (by decide) ?_
          exact r_Rules_send_109 X a0 a1 x2 x3 (nI 0) h92 hm hI (lv_sub hl [1, 2, 3, 4, 0] rfl)
        · replace hm := zif_f hs25_3 hm
          by_cases hs25_4 : v22 = (nI 5)
          · replace hm := zif_t hs25_4 hm
            refine lv_tableIn (off := 71) (tgt := 96) hx hb d_Rules_send_25 (by rw [hs25_4]; decide) (by rw [hs25_4]; decide) (by rw [hs25_4]; rfl) (by decide) ?_
            refine lv_aload_n hx hb d_Rules_send_96 rfl (lv_at hl 2 rfl) ?_
            refine lv_bipush (v := (nI 105)) hx hb d_Rules_send_97 (by decide) ?_
            refine lv_iload_n hx hb d_Rules_send_99 rfl (lv_at hl 3 rfl) ?_
            refine lv_iadd hx hb d_Rules_send_100 ?_
            refine lv_dup2_11 hx hb d_Rules_send_101 rfl rfl ?_
            obtain ⟨v102, hv, hm⟩ := zbd hm
            refine z_iald X hI hv d_Rules_send_102 ?_
            refine lv_iconst (v := (nI 1)) hx hb d_Rules_send_103 (by decide) ?_
            refine lv_iadd hx hb d_Rules_send_104 ?_
            obtain ⟨h105, hv, hm⟩ := zbd hm
            refine z_iast X hI hv d_Rules_send_105 (fun H locs hI => ?_)
            refine lv_goto (tgt := 109) hx hb d_Rules_send_106 (by decide) ?_
            exact r_Rules_send_109 X a0 a1 x2 x3 (nI 0) h105 hm hI (lv_sub hl [1, 2, 3, 4, 0] rfl)
          · replace hm := zif_f hs25_4 hm
            have he0 : (v22).toInt ≠ 1 := fun q => hs25_0 (Int32.toInt_inj.mp (q.trans (by decide)))
            have he1 : (v22).toInt ≠ 2 := fun q => hs25_1 (Int32.toInt_inj.mp (q.trans (by decide)))
            have he2 : (v22).toInt ≠ 3 := fun q => hs25_2 (Int32.toInt_inj.mp (q.trans (by decide)))
            have he3 : (v22).toInt ≠ 4 := fun q => hs25_3 (Int32.toInt_inj.mp (q.trans (by decide)))
            have he4 : (v22).toInt ≠ 5 := fun q => hs25_4 (Int32.toInt_inj.mp (q.trans (by decide)))
            refine lv_tableOut (tgt := 109) hx hb d_Rules_send_25 (by omega) (by decide) ?_
            exact r_Rules_send_109 X a0 a1 x2 x3 (nI 0) h17 hm hI (lv_sub hl [1, 2, 3, 4, 0] rfl)
set_option maxHeartbeats 4000000 in
set_option maxRecDepth 100000 in
theorem c_Rules_send (l : Launch) (G : zG) (K : Nat) (a0 : Nat) (a1 : Nat) (x2 : Int32) (x3 : Int32) (h : zH) (r : Int32) (h' : zH) (hm : m_Rules_send a0 a1 x2 x3 h = some (r, h')) : zMi l G K y_Rules_send prog_5_method_6_code 6 1 [.ref (G.1 a0), .ref (G.1 a1), .int x2, .int x3] h r h' := zMet (by decide +kernel) (Nat.le_of_ble_eq_true rfl) (fun p e s m below meth c ls X hI hl => r_Rules_send_0 X a0 a1 x2 x3 h hm hI hl)
-- walk of AllHome$Rules.sendNote
theorem d_Rules_sendNote_0 : decode prog_5_method_8_code 0 = .ok (.aload_n 0, 1) := by decide +kernel
theorem d_Rules_sendNote_1 : decode prog_5_method_8_code 1 = .ok (.bipush 43, 2) := by decide +kernel
theorem d_Rules_sendNote_3 : decode prog_5_method_8_code 3 = .ok (.iaload, 1) := by decide +kernel
theorem d_Rules_sendNote_4 : decode prog_5_method_8_code 4 = .ok (.istore 4, 2) := by decide +kernel
theorem d_Rules_sendNote_6 : decode prog_5_method_8_code 6 = .ok (.iload 4, 2) := by decide +kernel
theorem d_Rules_sendNote_8 : decode prog_5_method_8_code 8 = .ok (.ifCond .lt 10, 3) := by decide +kernel
theorem d_Rules_sendNote_11 : decode prog_5_method_8_code 11 = .ok (.iload 4, 2) := by decide +kernel
theorem d_Rules_sendNote_13 : decode prog_5_method_8_code 13 = .ok (.bipush 8, 2) := by decide +kernel
theorem d_Rules_sendNote_15 : decode prog_5_method_8_code 15 = .ok (.if_icmp .lt 6, 3) := by decide +kernel
theorem d_Rules_sendNote_18 : decode prog_5_method_8_code 18 = .ok (.bipush (-3), 2) := by decide +kernel
theorem d_Rules_sendNote_20 : decode prog_5_method_8_code 20 = .ok (.ireturn, 1) := by decide +kernel
theorem d_Rules_sendNote_21 : decode prog_5_method_8_code 21 = .ok (.aload_n 0, 1) := by decide +kernel
theorem d_Rules_sendNote_22 : decode prog_5_method_8_code 22 = .ok (.bipush 44, 2) := by decide +kernel
theorem d_Rules_sendNote_24 : decode prog_5_method_8_code 24 = .ok (.iload 4, 2) := by decide +kernel
theorem d_Rules_sendNote_26 : decode prog_5_method_8_code 26 = .ok (.iadd, 1) := by decide +kernel
theorem d_Rules_sendNote_27 : decode prog_5_method_8_code 27 = .ok (.iload_n 1, 1) := by decide +kernel
theorem d_Rules_sendNote_28 : decode prog_5_method_8_code 28 = .ok (.iastore, 1) := by decide +kernel
theorem d_Rules_sendNote_29 : decode prog_5_method_8_code 29 = .ok (.aload_n 0, 1) := by decide +kernel
theorem d_Rules_sendNote_30 : decode prog_5_method_8_code 30 = .ok (.bipush 52, 2) := by decide +kernel
theorem d_Rules_sendNote_32 : decode prog_5_method_8_code 32 = .ok (.iload 4, 2) := by decide +kernel
theorem d_Rules_sendNote_34 : decode prog_5_method_8_code 34 = .ok (.iadd, 1) := by decide +kernel
theorem d_Rules_sendNote_35 : decode prog_5_method_8_code 35 = .ok (.iload_n 2, 1) := by decide +kernel
theorem d_Rules_sendNote_36 : decode prog_5_method_8_code 36 = .ok (.iastore, 1) := by decide +kernel
theorem d_Rules_sendNote_37 : decode prog_5_method_8_code 37 = .ok (.aload_n 0, 1) := by decide +kernel
theorem d_Rules_sendNote_38 : decode prog_5_method_8_code 38 = .ok (.bipush 60, 2) := by decide +kernel
theorem d_Rules_sendNote_40 : decode prog_5_method_8_code 40 = .ok (.iload 4, 2) := by decide +kernel
theorem d_Rules_sendNote_42 : decode prog_5_method_8_code 42 = .ok (.iadd, 1) := by decide +kernel
theorem d_Rules_sendNote_43 : decode prog_5_method_8_code 43 = .ok (.iload_n 3, 1) := by decide +kernel
theorem d_Rules_sendNote_44 : decode prog_5_method_8_code 44 = .ok (.iastore, 1) := by decide +kernel
theorem d_Rules_sendNote_45 : decode prog_5_method_8_code 45 = .ok (.aload_n 0, 1) := by decide +kernel
theorem d_Rules_sendNote_46 : decode prog_5_method_8_code 46 = .ok (.bipush 43, 2) := by decide +kernel
theorem d_Rules_sendNote_48 : decode prog_5_method_8_code 48 = .ok (.iload 4, 2) := by decide +kernel
theorem d_Rules_sendNote_50 : decode prog_5_method_8_code 50 = .ok (.iconst 1, 1) := by decide +kernel
theorem d_Rules_sendNote_51 : decode prog_5_method_8_code 51 = .ok (.iadd, 1) := by decide +kernel
theorem d_Rules_sendNote_52 : decode prog_5_method_8_code 52 = .ok (.iastore, 1) := by decide +kernel
theorem d_Rules_sendNote_53 : decode prog_5_method_8_code 53 = .ok (.aload_n 0, 1) := by decide +kernel
theorem d_Rules_sendNote_54 : decode prog_5_method_8_code 54 = .ok (.bipush 122, 2) := by decide +kernel
theorem d_Rules_sendNote_56 : decode prog_5_method_8_code 56 = .ok (.dup2, 1) := by decide +kernel
theorem d_Rules_sendNote_57 : decode prog_5_method_8_code 57 = .ok (.iaload, 1) := by decide +kernel
theorem d_Rules_sendNote_58 : decode prog_5_method_8_code 58 = .ok (.iconst 1, 1) := by decide +kernel
theorem d_Rules_sendNote_59 : decode prog_5_method_8_code 59 = .ok (.iadd, 1) := by decide +kernel
theorem d_Rules_sendNote_60 : decode prog_5_method_8_code 60 = .ok (.iastore, 1) := by decide +kernel
theorem d_Rules_sendNote_61 : decode prog_5_method_8_code 61 = .ok (.iconst 1, 1) := by decide +kernel
theorem d_Rules_sendNote_62 : decode prog_5_method_8_code 62 = .ok (.ireturn, 1) := by decide +kernel
set_option maxHeartbeats 4000000 in
set_option maxRecDepth 100000 in
theorem r_Rules_sendNote_0 {p : Program} {l : Launch} {e : Env} {s : State} {m : MethodId} {args : Array Value} {below : List Frame} {meth : Method} {c : Code} {G : zG} {K : Nat} (X : zX p s m args meth c "AllHome$Rules" prog_5_method_8_code 5 (some .int) G (zA G K)) {r : Int32} {h' : zH} (a0 : Nat) (x1 : Int32) (x2 : Int32) (x3 : Int32) (h : zH) (hm : m_Rules_sendNote a0 x1 x2 x3 h = some (r, h')) {H : Heap} {locs : List Loc} {ls : Array Slot} (hI : zI G K s (zA G K) H locs h) (hl : lv_has ls 5 [(0, .ref (G.1 a0)), (1, .int x1), (2, .int x2), (3, .int x3)]) : W p l e (zR 0) s m args below meth c H locs 0 0 (MQ below (zQi G K r h') args s 0 0 (zA G K)) (F0 m 0 ls []) := by
  obtain ⟨hx, hb, hml, hown, hts, hr, hlocks, hK, hST, hNs⟩ := id X
  unfold m_Rules_sendNote at hm
  refine lv_aload_n hx hb d_Rules_sendNote_0 rfl (lv_at hl 0 rfl) ?_
  refine lv_bipush (v := (nI 43)) hx hb d_Rules_sendNote_1 (by decide) ?_
  obtain ⟨v3, hv, hm⟩ := zbd hm
  refine z_iald X hI hv d_Rules_sendNote_3 ?_
  refine lv_istore (lv' := [(4, .int v3), (0, .ref (G.1 a0)), (1, .int x1), (2, .int x2), (3, .int x3)]) hx hb d_Rules_sendNote_4 hl (by decide) rfl (fun ls hl => ?_)
  refine lv_iload hx hb d_Rules_sendNote_6 (lv_at hl 0 rfl) ?_
  refine lv_if_lt (tgt := 18) hx hb d_Rules_sendNote_8 (by decide) (fun hc8 => ?_) (fun hc8 => ?_)
  · replace hm := zif_t hc8 hm
    refine lv_bipush (v := (-3 : Int32)) hx hb d_Rules_sendNote_18 (by decide) ?_
    obtain ⟨rfl, rfl⟩ := zs2 hm
    exact z_iret X hI d_Rules_sendNote_20
  · replace hm := zif_f hc8 hm
    refine lv_iload hx hb d_Rules_sendNote_11 (lv_at hl 0 rfl) ?_
    refine lv_bipush (v := (nI 8)) hx hb d_Rules_sendNote_13 (by decide) ?_
    refine lv_icmp_lt (tgt := 21) hx hb d_Rules_sendNote_15 (by decide) (fun hc15 => ?_) (fun hc15 => ?_)
    · replace hm := zif_t hc15 hm
      refine lv_aload_n hx hb d_Rules_sendNote_21 rfl (lv_at hl 1 rfl) ?_
      refine lv_bipush (v := (nI 44)) hx hb d_Rules_sendNote_22 (by decide) ?_
      refine lv_iload hx hb d_Rules_sendNote_24 (lv_at hl 0 rfl) ?_
      refine lv_iadd hx hb d_Rules_sendNote_26 ?_
      refine lv_iload_n hx hb d_Rules_sendNote_27 rfl (lv_at hl 2 rfl) ?_
      obtain ⟨h28, hv, hm⟩ := zbd hm
      refine z_iast X hI hv d_Rules_sendNote_28 (fun H locs hI => ?_)
      refine lv_aload_n hx hb d_Rules_sendNote_29 rfl (lv_at hl 1 rfl) ?_
      refine lv_bipush (v := (nI 52)) hx hb d_Rules_sendNote_30 (by decide) ?_
      refine lv_iload hx hb d_Rules_sendNote_32 (lv_at hl 0 rfl) ?_
      refine lv_iadd hx hb d_Rules_sendNote_34 ?_
      refine lv_iload_n hx hb d_Rules_sendNote_35 rfl (lv_at hl 3 rfl) ?_
      obtain ⟨h36, hv, hm⟩ := zbd hm
      refine z_iast X hI hv d_Rules_sendNote_36 (fun H locs hI => ?_)
      refine lv_aload_n hx hb d_Rules_sendNote_37 rfl (lv_at hl 1 rfl) ?_
      refine lv_bipush (v := (nI 60)) hx hb d_Rules_sendNote_38 (by decide) ?_
      refine lv_iload hx hb d_Rules_sendNote_40 (lv_at hl 0 rfl) ?_
      refine lv_iadd hx hb d_Rules_sendNote_42 ?_
      refine lv_iload_n hx hb d_Rules_sendNote_43 rfl (lv_at hl 4 rfl) ?_
      obtain ⟨h44, hv, hm⟩ := zbd hm
      refine z_iast X hI hv d_Rules_sendNote_44 (fun H locs hI => ?_)
      refine lv_aload_n hx hb d_Rules_sendNote_45 rfl (lv_at hl 1 rfl) ?_
      refine lv_bipush (v := (nI 43)) hx hb d_Rules_sendNote_46 (by decide) ?_
      refine lv_iload hx hb d_Rules_sendNote_48 (lv_at hl 0 rfl) ?_
      refine lv_iconst (v := (nI 1)) hx hb d_Rules_sendNote_50 (by decide) ?_
      refine lv_iadd hx hb d_Rules_sendNote_51 ?_
      obtain ⟨h52, hv, hm⟩ := zbd hm
      refine z_iast X hI hv d_Rules_sendNote_52 (fun H locs hI => ?_)
      refine lv_aload_n hx hb d_Rules_sendNote_53 rfl (lv_at hl 1 rfl) ?_
      refine lv_bipush (v := (nI 122)) hx hb d_Rules_sendNote_54 (by decide) ?_
      refine lv_dup2_11 hx hb d_Rules_sendNote_56 rfl rfl ?_
      obtain ⟨v57, hv, hm⟩ := zbd hm
      refine z_iald X hI hv d_Rules_sendNote_57 ?_
      refine lv_iconst (v := (nI 1)) hx hb d_Rules_sendNote_58 (by decide) ?_
      refine lv_iadd hx hb d_Rules_sendNote_59 ?_
      obtain ⟨h60, hv, hm⟩ := zbd hm
      refine z_iast X hI hv d_Rules_sendNote_60 (fun H locs hI => ?_)
      refine lv_iconst (v := (nI 1)) hx hb d_Rules_sendNote_61 (by decide) ?_
      obtain ⟨rfl, rfl⟩ := zs2 hm
      exact z_iret X hI d_Rules_sendNote_62
    · replace hm := zif_f hc15 hm
      refine lv_bipush (v := (-3 : Int32)) hx hb d_Rules_sendNote_18 (by decide) ?_
      obtain ⟨rfl, rfl⟩ := zs2 hm
      exact z_iret X hI d_Rules_sendNote_20
set_option maxHeartbeats 4000000 in
set_option maxRecDepth 100000 in
theorem c_Rules_sendNote (l : Launch) (G : zG) (K : Nat) (a0 : Nat) (x1 : Int32) (x2 : Int32) (x3 : Int32) (h : zH) (r : Int32) (h' : zH) (hm : m_Rules_sendNote a0 x1 x2 x3 h = some (r, h')) : zMi l G K y_Rules_sendNote prog_5_method_8_code 5 0 [.ref (G.1 a0), .int x1, .int x2, .int x3] h r h' := zMet (by decide +kernel) (Nat.le_of_ble_eq_true rfl) (fun p e s m below meth c ls X hI hl => r_Rules_sendNote_0 X a0 x1 x2 x3 h hm hI hl)
-- walk of AllHome$Rules.goOn
theorem d_Rules_goOn_0 : decode prog_5_method_5_code 0 = .ok (.aload_n 0, 1) := by decide +kernel
theorem d_Rules_goOn_1 : decode prog_5_method_5_code 1 = .ok (.getfield 9, 3) := by decide +kernel
theorem d_Rules_goOn_4 : decode prog_5_method_5_code 4 = .ok (.iload_n 2, 1) := by decide +kernel
theorem d_Rules_goOn_5 : decode prog_5_method_5_code 5 = .ok (.invokevirtual 60, 3) := by decide +kernel
theorem d_Rules_goOn_8 : decode prog_5_method_5_code 8 = .ok (.ifCond .eq 11, 3) := by decide +kernel
theorem d_Rules_goOn_11 : decode prog_5_method_5_code 11 = .ok (.aload_n 1, 1) := by decide +kernel
theorem d_Rules_goOn_12 : decode prog_5_method_5_code 12 = .ok (.iconst 0, 1) := by decide +kernel
theorem d_Rules_goOn_13 : decode prog_5_method_5_code 13 = .ok (.iload_n 2, 1) := by decide +kernel
theorem d_Rules_goOn_14 : decode prog_5_method_5_code 14 = .ok (.iadd, 1) := by decide +kernel
theorem d_Rules_goOn_15 : decode prog_5_method_5_code 15 = .ok (.iaload, 1) := by decide +kernel
theorem d_Rules_goOn_16 : decode prog_5_method_5_code 16 = .ok (.ifCond .ne 6, 3) := by decide +kernel
theorem d_Rules_goOn_19 : decode prog_5_method_5_code 19 = .ok (.bipush (-5), 2) := by decide +kernel
theorem d_Rules_goOn_21 : decode prog_5_method_5_code 21 = .ok (.ireturn, 1) := by decide +kernel
theorem d_Rules_goOn_22 : decode prog_5_method_5_code 22 = .ok (.aload_n 1, 1) := by decide +kernel
theorem d_Rules_goOn_23 : decode prog_5_method_5_code 23 = .ok (.bipush 6, 2) := by decide +kernel
theorem d_Rules_goOn_25 : decode prog_5_method_5_code 25 = .ok (.iload_n 2, 1) := by decide +kernel
theorem d_Rules_goOn_26 : decode prog_5_method_5_code 26 = .ok (.iadd, 1) := by decide +kernel
theorem d_Rules_goOn_27 : decode prog_5_method_5_code 27 = .ok (.iaload, 1) := by decide +kernel
theorem d_Rules_goOn_28 : decode prog_5_method_5_code 28 = .ok (.iconst 1, 1) := by decide +kernel
theorem d_Rules_goOn_29 : decode prog_5_method_5_code 29 = .ok (.isub, 1) := by decide +kernel
theorem d_Rules_goOn_30 : decode prog_5_method_5_code 30 = .ok (.istore_n 3, 1) := by decide +kernel
theorem d_Rules_goOn_31 : decode prog_5_method_5_code 31 = .ok (.aload_n 1, 1) := by decide +kernel
theorem d_Rules_goOn_32 : decode prog_5_method_5_code 32 = .ok (.bipush 12, 2) := by decide +kernel
theorem d_Rules_goOn_34 : decode prog_5_method_5_code 34 = .ok (.iload_n 2, 1) := by decide +kernel
theorem d_Rules_goOn_35 : decode prog_5_method_5_code 35 = .ok (.iadd, 1) := by decide +kernel
theorem d_Rules_goOn_36 : decode prog_5_method_5_code 36 = .ok (.iaload, 1) := by decide +kernel
theorem d_Rules_goOn_37 : decode prog_5_method_5_code 37 = .ok (.aload_n 0, 1) := by decide +kernel
theorem d_Rules_goOn_38 : decode prog_5_method_5_code 38 = .ok (.getfield 9, 3) := by decide +kernel
theorem d_Rules_goOn_41 : decode prog_5_method_5_code 41 = .ok (.iload_n 2, 1) := by decide +kernel
theorem d_Rules_goOn_42 : decode prog_5_method_5_code 42 = .ok (.iload_n 3, 1) := by decide +kernel
theorem d_Rules_goOn_43 : decode prog_5_method_5_code 43 = .ok (.invokevirtual 65, 3) := by decide +kernel
theorem d_Rules_goOn_46 : decode prog_5_method_5_code 46 = .ok (.if_icmp .ge 25, 3) := by decide +kernel
theorem d_Rules_goOn_49 : decode prog_5_method_5_code 49 = .ok (.aload_n 0, 1) := by decide +kernel
theorem d_Rules_goOn_50 : decode prog_5_method_5_code 50 = .ok (.aload_n 1, 1) := by decide +kernel
theorem d_Rules_goOn_51 : decode prog_5_method_5_code 51 = .ok (.iload_n 2, 1) := by decide +kernel
theorem d_Rules_goOn_52 : decode prog_5_method_5_code 52 = .ok (.aload_n 0, 1) := by decide +kernel
theorem d_Rules_goOn_53 : decode prog_5_method_5_code 53 = .ok (.getfield 9, 3) := by decide +kernel
theorem d_Rules_goOn_56 : decode prog_5_method_5_code 56 = .ok (.iload_n 2, 1) := by decide +kernel
theorem d_Rules_goOn_57 : decode prog_5_method_5_code 57 = .ok (.iload_n 3, 1) := by decide +kernel
theorem d_Rules_goOn_58 : decode prog_5_method_5_code 58 = .ok (.aload_n 1, 1) := by decide +kernel
theorem d_Rules_goOn_59 : decode prog_5_method_5_code 59 = .ok (.bipush 12, 2) := by decide +kernel
theorem d_Rules_goOn_61 : decode prog_5_method_5_code 61 = .ok (.iload_n 2, 1) := by decide +kernel
theorem d_Rules_goOn_62 : decode prog_5_method_5_code 62 = .ok (.iadd, 1) := by decide +kernel
theorem d_Rules_goOn_63 : decode prog_5_method_5_code 63 = .ok (.iaload, 1) := by decide +kernel
theorem d_Rules_goOn_64 : decode prog_5_method_5_code 64 = .ok (.invokevirtual 69, 3) := by decide +kernel
theorem d_Rules_goOn_67 : decode prog_5_method_5_code 67 = .ok (.invokevirtual 73, 3) := by decide +kernel
theorem d_Rules_goOn_70 : decode prog_5_method_5_code 70 = .ok (.ireturn, 1) := by decide +kernel
theorem d_Rules_goOn_71 : decode prog_5_method_5_code 71 = .ok (.aload_n 1, 1) := by decide +kernel
theorem d_Rules_goOn_72 : decode prog_5_method_5_code 72 = .ok (.iconst 0, 1) := by decide +kernel
theorem d_Rules_goOn_73 : decode prog_5_method_5_code 73 = .ok (.iload_n 2, 1) := by decide +kernel
theorem d_Rules_goOn_74 : decode prog_5_method_5_code 74 = .ok (.iadd, 1) := by decide +kernel
theorem d_Rules_goOn_75 : decode prog_5_method_5_code 75 = .ok (.iconst 0, 1) := by decide +kernel
theorem d_Rules_goOn_76 : decode prog_5_method_5_code 76 = .ok (.iastore, 1) := by decide +kernel
theorem d_Rules_goOn_77 : decode prog_5_method_5_code 77 = .ok (.aload_n 1, 1) := by decide +kernel
theorem d_Rules_goOn_78 : decode prog_5_method_5_code 78 = .ok (.bipush 68, 2) := by decide +kernel
theorem d_Rules_goOn_80 : decode prog_5_method_5_code 80 = .ok (.iload_n 2, 1) := by decide +kernel
theorem d_Rules_goOn_81 : decode prog_5_method_5_code 81 = .ok (.iadd, 1) := by decide +kernel
theorem d_Rules_goOn_82 : decode prog_5_method_5_code 82 = .ok (.iaload, 1) := by decide +kernel
theorem d_Rules_goOn_83 : decode prog_5_method_5_code 83 = .ok (.istore 4, 2) := by decide +kernel
theorem d_Rules_goOn_85 : decode prog_5_method_5_code 85 = .ok (.aload_n 0, 1) := by decide +kernel
theorem d_Rules_goOn_86 : decode prog_5_method_5_code 86 = .ok (.getfield 15, 3) := by decide +kernel
theorem d_Rules_goOn_89 : decode prog_5_method_5_code 89 = .ok (.iconst 1, 1) := by decide +kernel
theorem d_Rules_goOn_90 : decode prog_5_method_5_code 90 = .ok (.if_icmp .ne 12, 3) := by decide +kernel
theorem d_Rules_goOn_93 : decode prog_5_method_5_code 93 = .ok (.iload_n 2, 1) := by decide +kernel
theorem d_Rules_goOn_94 : decode prog_5_method_5_code 94 = .ok (.ifCond .eq 8, 3) := by decide +kernel
theorem d_Rules_goOn_97 : decode prog_5_method_5_code 97 = .ok (.iload 4, 2) := by decide +kernel
theorem d_Rules_goOn_99 : decode prog_5_method_5_code 99 = .ok (.ifCond .ne 5, 3) := by decide +kernel
theorem d_Rules_goOn_102 : decode prog_5_method_5_code 102 = .ok (.iconst 1, 1) := by decide +kernel
theorem d_Rules_goOn_103 : decode prog_5_method_5_code 103 = .ok (.ireturn, 1) := by decide +kernel
theorem d_Rules_goOn_104 : decode prog_5_method_5_code 104 = .ok (.aload_n 1, 1) := by decide +kernel
theorem d_Rules_goOn_105 : decode prog_5_method_5_code 105 = .ok (.bipush 68, 2) := by decide +kernel
theorem d_Rules_goOn_107 : decode prog_5_method_5_code 107 = .ok (.iload_n 2, 1) := by decide +kernel
theorem d_Rules_goOn_108 : decode prog_5_method_5_code 108 = .ok (.iadd, 1) := by decide +kernel
theorem d_Rules_goOn_109 : decode prog_5_method_5_code 109 = .ok (.iconst 0, 1) := by decide +kernel
theorem d_Rules_goOn_110 : decode prog_5_method_5_code 110 = .ok (.iastore, 1) := by decide +kernel
theorem d_Rules_goOn_111 : decode prog_5_method_5_code 111 = .ok (.aload_n 1, 1) := by decide +kernel
theorem d_Rules_goOn_112 : decode prog_5_method_5_code 112 = .ok (.iconst 0, 1) := by decide +kernel
theorem d_Rules_goOn_113 : decode prog_5_method_5_code 113 = .ok (.iload 4, 2) := by decide +kernel
theorem d_Rules_goOn_115 : decode prog_5_method_5_code 115 = .ok (.iconst 0, 1) := by decide +kernel
theorem d_Rules_goOn_116 : decode prog_5_method_5_code 116 = .ok (.invokestatic 77, 3) := by decide +kernel
theorem d_Rules_goOn_119 : decode prog_5_method_5_code 119 = .ok (.ireturn, 1) := by decide +kernel
set_option maxHeartbeats 4000000 in
set_option maxRecDepth 100000 in
theorem r_Rules_goOn_0 {p : Program} {l : Launch} {e : Env} {s : State} {m : MethodId} {args : Array Value} {below : List Frame} {meth : Method} {c : Code} {G : zG} {K : Nat} (X : zX p s m args meth c "AllHome$Rules" prog_5_method_5_code 5 (some .int) G (zA G K)) {r : Int32} {h' : zH} (a0 : Nat) (a1 : Nat) (x2 : Int32) (h : zH) (hm : m_Rules_goOn a0 a1 x2 h = some (r, h')) {H : Heap} {locs : List Loc} {ls : Array Slot} (hI : zI G K s (zA G K) H locs h) (hl : lv_has ls 5 [(0, .ref (G.1 a0)), (1, .ref (G.1 a1)), (2, .int x2)]) : W p l e (zR 2) s m args below meth c H locs 0 0 (MQ below (zQi G K r h') args s 0 0 (zA G K)) (F0 m 0 ls []) := by
  obtain ⟨hx, hb, hml, hown, hts, hr, hlocks, hK, hST, hNs⟩ := id X
  unfold m_Rules_goOn at hm
  refine lv_aload_n hx hb d_Rules_goOn_0 rfl (lv_at hl 0 rfl) ?_
  obtain ⟨v1, hv, hm⟩ := zbd hm
  refine z_getR X hI F_Rules_9 hv d_Rules_goOn_1 ?_
  refine lv_iload_n hx hb d_Rules_goOn_4 rfl (lv_at hl 2 rfl) ?_
  obtain ⟨v5, hv, hm⟩ := zbd hm
  obtain ⟨hq, hv⟩ := zcv_at hv
  refine z_ci hI (z_runV (As := [.int x2]) (rest := []) X hI hl.1 (c_Huts_has l G K v1 x2 h _ hv) C_Rules_60 rfl hq (Nat.le_of_ble_eq_true rfl) ⟨Nat.le_of_ble_eq_true rfl, Nat.le_of_ble_eq_true rfl, Nat.zero_le _, Nat.zero_le _⟩ rfl d_Rules_goOn_5) (fun H locs hI => ?_)
  refine lv_if_eq (tgt := 19) hx hb d_Rules_goOn_8 (by decide) (fun hc8 => ?_) (fun hc8 => ?_)
  · replace hm := zif_t hc8 hm
    refine lv_bipush (v := (-5 : Int32)) hx hb d_Rules_goOn_19 (by decide) ?_
    obtain ⟨rfl, rfl⟩ := zs2 hm
    exact z_iret X hI d_Rules_goOn_21
  · replace hm := zif_f hc8 hm
    refine lv_aload_n hx hb d_Rules_goOn_11 rfl (lv_at hl 1 rfl) ?_
    refine lv_iconst (v := (nI 0)) hx hb d_Rules_goOn_12 (by decide) ?_
    refine lv_iload_n hx hb d_Rules_goOn_13 rfl (lv_at hl 2 rfl) ?_
    refine lv_iadd hx hb d_Rules_goOn_14 ?_
    obtain ⟨v15, hv, hm⟩ := zbd hm
    refine z_iald X hI hv d_Rules_goOn_15 ?_
    refine lv_if_ne (tgt := 22) hx hb d_Rules_goOn_16 (by decide) (fun hc16 => ?_) (fun hc16 => ?_)
    · replace hm := zif_f hc16 hm
      refine lv_aload_n hx hb d_Rules_goOn_22 rfl (lv_at hl 1 rfl) ?_
      refine lv_bipush (v := (nI 6)) hx hb d_Rules_goOn_23 (by decide) ?_
      refine lv_iload_n hx hb d_Rules_goOn_25 rfl (lv_at hl 2 rfl) ?_
      refine lv_iadd hx hb d_Rules_goOn_26 ?_
      obtain ⟨v27, hv, hm⟩ := zbd hm
      refine z_iald X hI hv d_Rules_goOn_27 ?_
      refine lv_iconst (v := (nI 1)) hx hb d_Rules_goOn_28 (by decide) ?_
      refine lv_isub hx hb d_Rules_goOn_29 ?_
      refine lv_istore_n (lv' := [(3, .int (v27 - (nI 1))), (0, .ref (G.1 a0)), (1, .ref (G.1 a1)), (2, .int x2)]) hx hb d_Rules_goOn_30 rfl hl (by decide) rfl (fun ls hl => ?_)
      refine lv_aload_n hx hb d_Rules_goOn_31 rfl (lv_at hl 2 rfl) ?_
      refine lv_bipush (v := (nI 12)) hx hb d_Rules_goOn_32 (by decide) ?_
      refine lv_iload_n hx hb d_Rules_goOn_34 rfl (lv_at hl 3 rfl) ?_
      refine lv_iadd hx hb d_Rules_goOn_35 ?_
      obtain ⟨v36, hv, hm⟩ := zbd hm
      refine z_iald X hI hv d_Rules_goOn_36 ?_
      refine lv_aload_n hx hb d_Rules_goOn_37 rfl (lv_at hl 1 rfl) ?_
      obtain ⟨v38, hv, hm⟩ := zbd hm
      refine z_getR X hI F_Rules_9 hv d_Rules_goOn_38 ?_
      refine lv_iload_n hx hb d_Rules_goOn_41 rfl (lv_at hl 3 rfl) ?_
      refine lv_iload_n hx hb d_Rules_goOn_42 rfl (lv_at hl 0 rfl) ?_
      obtain ⟨v43, hv, hm⟩ := zbd hm
      obtain ⟨hq, hv⟩ := zcv_at hv
      refine z_ci hI (z_runV (As := [.int x2, .int (v27 - (nI 1))]) (rest := [.int v36]) X hI hl.1 (c_Huts_wordsOf l G K v38 x2 (v27 - (nI 1)) h _ hv) C_Rules_65 rfl hq (Nat.le_of_ble_eq_true rfl) ⟨Nat.le_of_ble_eq_true rfl, Nat.le_of_ble_eq_true rfl, Nat.zero_le _, Nat.zero_le _⟩ rfl d_Rules_goOn_43) (fun H locs hI => ?_)
      refine lv_icmp_ge (tgt := 71) hx hb d_Rules_goOn_46 (by decide) (fun hc46 => ?_) (fun hc46 => ?_)
      · replace hm := zif_t hc46 hm
        refine lv_aload_n hx hb d_Rules_goOn_71 rfl (lv_at hl 2 rfl) ?_
        refine lv_iconst (v := (nI 0)) hx hb d_Rules_goOn_72 (by decide) ?_
        refine lv_iload_n hx hb d_Rules_goOn_73 rfl (lv_at hl 3 rfl) ?_
        refine lv_iadd hx hb d_Rules_goOn_74 ?_
        refine lv_iconst (v := (nI 0)) hx hb d_Rules_goOn_75 (by decide) ?_
        obtain ⟨h76, hv, hm⟩ := zbd hm
        refine z_iast X hI hv d_Rules_goOn_76 (fun H locs hI => ?_)
        refine lv_aload_n hx hb d_Rules_goOn_77 rfl (lv_at hl 2 rfl) ?_
        refine lv_bipush (v := (nI 68)) hx hb d_Rules_goOn_78 (by decide) ?_
        refine lv_iload_n hx hb d_Rules_goOn_80 rfl (lv_at hl 3 rfl) ?_
        refine lv_iadd hx hb d_Rules_goOn_81 ?_
        obtain ⟨v82, hv, hm⟩ := zbd hm
        refine z_iald X hI hv d_Rules_goOn_82 ?_
        refine lv_istore (lv' := [(4, .int v82), (3, .int (v27 - (nI 1))), (0, .ref (G.1 a0)), (1, .ref (G.1 a1)), (2, .int x2)]) hx hb d_Rules_goOn_83 hl (by decide) rfl (fun ls hl => ?_)
        refine lv_aload_n hx hb d_Rules_goOn_85 rfl (lv_at hl 2 rfl) ?_
        obtain ⟨v86, hv, hm⟩ := zbd hm
        refine z_getI X hI F_Rules_15 hv d_Rules_goOn_86 ?_
        refine lv_iconst (v := (nI 1)) hx hb d_Rules_goOn_89 (by decide) ?_
        refine lv_icmp_ne (tgt := 102) hx hb d_Rules_goOn_90 (by decide) (fun hc90 => ?_) (fun hc90 => ?_)
        · replace hm := zif_f hc90 hm
          refine lv_iconst (v := (nI 1)) hx hb d_Rules_goOn_102 (by decide) ?_
          obtain ⟨rfl, rfl⟩ := zs2 hm
          exact z_iret X hI d_Rules_goOn_103
        · replace hm := zif_t hc90 hm
          refine lv_iload_n hx hb d_Rules_goOn_93 rfl (lv_at hl 4 rfl) ?_
          refine lv_if_eq (tgt := 102) hx hb d_Rules_goOn_94 (by decide) (fun hc94 => ?_) (fun hc94 => ?_)
          · replace hm := zif_t hc94 hm
            refine lv_iconst (v := (nI 1)) hx hb d_Rules_goOn_102 (by decide) ?_
            obtain ⟨rfl, rfl⟩ := zs2 hm
            exact z_iret X hI d_Rules_goOn_103
          · replace hm := zif_f hc94 hm
            refine lv_iload hx hb d_Rules_goOn_97 (lv_at hl 0 rfl) ?_
            refine lv_if_ne (tgt := 104) hx hb d_Rules_goOn_99 (by decide) (fun hc99 => ?_) (fun hc99 => ?_)
            · replace hm := zif_f hc99 hm
              refine lv_aload_n hx hb d_Rules_goOn_104 rfl (lv_at hl 3 rfl) ?_
              refine lv_bipush (v := (nI 68)) hx hb d_Rules_goOn_105 (by decide) ?_
              refine lv_iload_n hx hb d_Rules_goOn_107 rfl (lv_at hl 4 rfl) ?_
              refine lv_iadd hx hb d_Rules_goOn_108 ?_
              refine lv_iconst (v := (nI 0)) hx hb d_Rules_goOn_109 (by decide) ?_
              obtain ⟨h110, hv, hm⟩ := zbd hm
              refine z_iast X hI hv d_Rules_goOn_110 (fun H locs hI => ?_)
              refine lv_aload_n hx hb d_Rules_goOn_111 rfl (lv_at hl 3 rfl) ?_
              refine lv_iconst (v := (nI 0)) hx hb d_Rules_goOn_112 (by decide) ?_
              refine lv_iload hx hb d_Rules_goOn_113 (lv_at hl 0 rfl) ?_
              refine lv_iconst (v := (nI 0)) hx hb d_Rules_goOn_115 (by decide) ?_
              obtain ⟨v116, h116, hv, hm⟩ := zb2_at hm
              refine z_ci hI (z_runS (As := [.ref (G.1 a1), .int (nI 0), .int v82, .int (nI 0)]) (rest := []) X hI hl.1 (c_Rules_sendNote l G K a1 (nI 0) v82 (nI 0) h110 _ _ hv) C_Rules_77 rfl (Nat.le_of_ble_eq_true rfl) ⟨Nat.le_of_ble_eq_true rfl, Nat.le_of_ble_eq_true rfl, Nat.zero_le _, Nat.zero_le _⟩ rfl d_Rules_goOn_116) (fun H locs hI => ?_)
              obtain ⟨rfl, rfl⟩ := zs2 hm
              exact z_iret X hI d_Rules_goOn_119
            · replace hm := zif_t hc99 hm
              refine lv_iconst (v := (nI 1)) hx hb d_Rules_goOn_102 (by decide) ?_
              obtain ⟨rfl, rfl⟩ := zs2 hm
              exact z_iret X hI d_Rules_goOn_103
      · replace hm := zif_f hc46 hm
        refine lv_aload_n hx hb d_Rules_goOn_49 rfl (lv_at hl 1 rfl) ?_
        refine lv_aload_n hx hb d_Rules_goOn_50 rfl (lv_at hl 2 rfl) ?_
        refine lv_iload_n hx hb d_Rules_goOn_51 rfl (lv_at hl 3 rfl) ?_
        refine lv_aload_n hx hb d_Rules_goOn_52 rfl (lv_at hl 1 rfl) ?_
        obtain ⟨v53, hv, hm⟩ := zbd hm
        refine z_getR X hI F_Rules_9 hv d_Rules_goOn_53 ?_
        refine lv_iload_n hx hb d_Rules_goOn_56 rfl (lv_at hl 3 rfl) ?_
        refine lv_iload_n hx hb d_Rules_goOn_57 rfl (lv_at hl 0 rfl) ?_
        refine lv_aload_n hx hb d_Rules_goOn_58 rfl (lv_at hl 2 rfl) ?_
        refine lv_bipush (v := (nI 12)) hx hb d_Rules_goOn_59 (by decide) ?_
        refine lv_iload_n hx hb d_Rules_goOn_61 rfl (lv_at hl 3 rfl) ?_
        refine lv_iadd hx hb d_Rules_goOn_62 ?_
        obtain ⟨v63, hv, hm⟩ := zbd hm
        refine z_iald X hI hv d_Rules_goOn_63 ?_
        obtain ⟨v64, hv, hm⟩ := zbd hm
        obtain ⟨hq, hv⟩ := zcv_at hv
        refine z_ci hI (z_runV (As := [.int x2, .int (v27 - (nI 1)), .int v63]) (rest := [.int x2, .ref (G.1 a1), .ref (G.1 a0)]) X hI hl.1 (c_Huts_goal l G K v53 x2 (v27 - (nI 1)) v63 h _ hv) C_Rules_69 rfl hq (Nat.le_of_ble_eq_true rfl) ⟨Nat.le_of_ble_eq_true rfl, Nat.le_of_ble_eq_true rfl, Nat.zero_le _, Nat.zero_le _⟩ rfl d_Rules_goOn_64) (fun H locs hI => ?_)
        obtain ⟨v67, h67, hv, hm⟩ := zb2_at hm
        obtain ⟨hq, hv⟩ := zcv_at hv
        refine z_ci hI (z_runV (As := [.ref (G.1 a1), .int x2, .int v64]) (rest := []) X hI hl.1 (c_Rules_send l G K a0 a1 x2 v64 h _ _ hv) C_Rules_73 rfl hq (Nat.le_of_ble_eq_true rfl) ⟨Nat.le_of_ble_eq_true rfl, Nat.le_of_ble_eq_true rfl, Nat.zero_le _, Nat.zero_le _⟩ rfl d_Rules_goOn_67) (fun H locs hI => ?_)
        obtain ⟨rfl, rfl⟩ := zs2 hm
        exact z_iret X hI d_Rules_goOn_70
    · replace hm := zif_t hc16 hm
      refine lv_bipush (v := (-5 : Int32)) hx hb d_Rules_goOn_19 (by decide) ?_
      obtain ⟨rfl, rfl⟩ := zs2 hm
      exact z_iret X hI d_Rules_goOn_21
set_option maxHeartbeats 4000000 in
set_option maxRecDepth 100000 in
theorem c_Rules_goOn (l : Launch) (G : zG) (K : Nat) (a0 : Nat) (a1 : Nat) (x2 : Int32) (h : zH) (r : Int32) (h' : zH) (hm : m_Rules_goOn a0 a1 x2 h = some (r, h')) : zMi l G K y_Rules_goOn prog_5_method_5_code 5 2 [.ref (G.1 a0), .ref (G.1 a1), .int x2] h r h' := zMet (by decide +kernel) (Nat.le_of_ble_eq_true rfl) (fun p e s m below meth c ls X hI hl => r_Rules_goOn_0 X a0 a1 x2 h hm hI hl)
-- walk of AllHome$Rules.isOnTheWay
theorem d_Rules_isOnTheWay_0 : decode prog_5_method_9_code 0 = .ok (.iload_n 2, 1) := by decide +kernel
theorem d_Rules_isOnTheWay_1 : decode prog_5_method_9_code 1 = .ok (.ifCond .lt 20, 3) := by decide +kernel
theorem d_Rules_isOnTheWay_4 : decode prog_5_method_9_code 4 = .ok (.iload_n 2, 1) := by decide +kernel
theorem d_Rules_isOnTheWay_5 : decode prog_5_method_9_code 5 = .ok (.aload_n 0, 1) := by decide +kernel
theorem d_Rules_isOnTheWay_6 : decode prog_5_method_9_code 6 = .ok (.iload_n 1, 1) := by decide +kernel
theorem d_Rules_isOnTheWay_7 : decode prog_5_method_9_code 7 = .ok (.iaload, 1) := by decide +kernel
theorem d_Rules_isOnTheWay_8 : decode prog_5_method_9_code 8 = .ok (.if_icmp .ge 13, 3) := by decide +kernel
theorem d_Rules_isOnTheWay_11 : decode prog_5_method_9_code 11 = .ok (.iload_n 2, 1) := by decide +kernel
theorem d_Rules_isOnTheWay_12 : decode prog_5_method_9_code 12 = .ok (.bipush 8, 2) := by decide +kernel
theorem d_Rules_isOnTheWay_14 : decode prog_5_method_9_code 14 = .ok (.if_icmp .ge 7, 3) := by decide +kernel
theorem d_Rules_isOnTheWay_17 : decode prog_5_method_9_code 17 = .ok (.iconst 1, 1) := by decide +kernel
theorem d_Rules_isOnTheWay_18 : decode prog_5_method_9_code 18 = .ok (.goto 4, 3) := by decide +kernel
theorem d_Rules_isOnTheWay_21 : decode prog_5_method_9_code 21 = .ok (.iconst 0, 1) := by decide +kernel
theorem d_Rules_isOnTheWay_22 : decode prog_5_method_9_code 22 = .ok (.ireturn, 1) := by decide +kernel
set_option maxHeartbeats 4000000 in
set_option maxRecDepth 100000 in
theorem r_Rules_isOnTheWay_0 {p : Program} {l : Launch} {e : Env} {s : State} {m : MethodId} {args : Array Value} {below : List Frame} {meth : Method} {c : Code} {G : zG} {K : Nat} (X : zX p s m args meth c "AllHome$Rules" prog_5_method_9_code 3 (some .boolean) G (zA G K)) {r : Int32} (a0 : Nat) (x1 : Int32) (x2 : Int32) (h : zH) (hm : m_Rules_isOnTheWay a0 x1 x2 h = some r) {H : Heap} {locs : List Loc} {ls : Array Slot} (hI : zI G K s (zA G K) H locs h) (hl : lv_has ls 3 [(0, .ref (G.1 a0)), (1, .int x1), (2, .int x2)]) : W p l e (zR 0) s m args below meth c H locs 0 0 (MQ below (zQi G K r h) args s 0 0 (zA G K)) (F0 m 0 ls []) := by
  obtain ⟨hx, hb, hml, hown, hts, hr, hlocks, hK, hST, hNs⟩ := id X
  unfold m_Rules_isOnTheWay at hm
  refine lv_iload_n hx hb d_Rules_isOnTheWay_0 rfl (lv_at hl 2 rfl) ?_
  refine lv_if_lt (tgt := 21) hx hb d_Rules_isOnTheWay_1 (by decide) (fun hc1 => ?_) (fun hc1 => ?_)
  · replace hm := zif_t hc1 hm
    refine lv_iconst (v := (nI 0)) hx hb d_Rules_isOnTheWay_21 (by decide) ?_
    obtain rfl := zs1 hm
    exact z_zret X hI (by decide) d_Rules_isOnTheWay_22
  · replace hm := zif_f hc1 hm
    refine lv_iload_n hx hb d_Rules_isOnTheWay_4 rfl (lv_at hl 2 rfl) ?_
    refine lv_aload_n hx hb d_Rules_isOnTheWay_5 rfl (lv_at hl 0 rfl) ?_
    refine lv_iload_n hx hb d_Rules_isOnTheWay_6 rfl (lv_at hl 1 rfl) ?_
    obtain ⟨v7, hv, hm⟩ := zbd hm
    refine z_iald X hI hv d_Rules_isOnTheWay_7 ?_
    refine lv_icmp_ge (tgt := 21) hx hb d_Rules_isOnTheWay_8 (by decide) (fun hc8 => ?_) (fun hc8 => ?_)
    · replace hm := zif_t hc8 hm
      refine lv_iconst (v := (nI 0)) hx hb d_Rules_isOnTheWay_21 (by decide) ?_
      obtain rfl := zs1 hm
      exact z_zret X hI (by decide) d_Rules_isOnTheWay_22
    · replace hm := zif_f hc8 hm
      refine lv_iload_n hx hb d_Rules_isOnTheWay_11 rfl (lv_at hl 2 rfl) ?_
      refine lv_bipush (v := (nI 8)) hx hb d_Rules_isOnTheWay_12 (by decide) ?_
      refine lv_icmp_ge (tgt := 21) hx hb d_Rules_isOnTheWay_14 (by decide) (fun hc14 => ?_) (fun hc14 => ?_)
      · replace hm := zif_t hc14 hm
        refine lv_iconst (v := (nI 0)) hx hb d_Rules_isOnTheWay_21 (by decide) ?_
        obtain rfl := zs1 hm
        exact z_zret X hI (by decide) d_Rules_isOnTheWay_22
      · replace hm := zif_f hc14 hm
        refine lv_iconst (v := (nI 1)) hx hb d_Rules_isOnTheWay_17 (by decide) ?_
        refine lv_goto (tgt := 22) hx hb d_Rules_isOnTheWay_18 (by decide) ?_
        obtain rfl := zs1 hm
        exact z_zret X hI (by decide) d_Rules_isOnTheWay_22
set_option maxHeartbeats 4000000 in
set_option maxRecDepth 100000 in
theorem c_Rules_isOnTheWay (l : Launch) (G : zG) (K : Nat) (a0 : Nat) (x1 : Int32) (x2 : Int32) (h : zH) (r : Int32) (hm : m_Rules_isOnTheWay a0 x1 x2 h = some r) : zMz l G K y_Rules_isOnTheWay prog_5_method_9_code 3 0 [.ref (G.1 a0), .int x1, .int x2] h r h := zMet (by decide +kernel) (Nat.le_of_ble_eq_true rfl) (fun p e s m below meth c ls X hI hl => r_Rules_isOnTheWay_0 X a0 x1 x2 h hm hI hl)
-- walk of AllHome$Rules.closeGap
theorem d_Rules_closeGap_0 : decode prog_5_method_14_code 0 = .ok (.iload_n 2, 1) := by decide +kernel
theorem d_Rules_closeGap_1 : decode prog_5_method_14_code 1 = .ok (.istore_n 3, 1) := by decide +kernel
theorem d_Rules_closeGap_2 : decode prog_5_method_14_code 2 = .ok (.iload_n 3, 1) := by decide +kernel
theorem d_Rules_closeGap_3 : decode prog_5_method_14_code 3 = .ok (.bipush 7, 2) := by decide +kernel
theorem d_Rules_closeGap_5 : decode prog_5_method_14_code 5 = .ok (.if_icmp .ge 21, 3) := by decide +kernel
theorem d_Rules_closeGap_8 : decode prog_5_method_14_code 8 = .ok (.aload_n 0, 1) := by decide +kernel
theorem d_Rules_closeGap_9 : decode prog_5_method_14_code 9 = .ok (.iload_n 1, 1) := by decide +kernel
theorem d_Rules_closeGap_10 : decode prog_5_method_14_code 10 = .ok (.iload_n 3, 1) := by decide +kernel
theorem d_Rules_closeGap_11 : decode prog_5_method_14_code 11 = .ok (.iadd, 1) := by decide +kernel
theorem d_Rules_closeGap_12 : decode prog_5_method_14_code 12 = .ok (.aload_n 0, 1) := by decide +kernel
theorem d_Rules_closeGap_13 : decode prog_5_method_14_code 13 = .ok (.iload_n 1, 1) := by decide +kernel
theorem d_Rules_closeGap_14 : decode prog_5_method_14_code 14 = .ok (.iload_n 3, 1) := by decide +kernel
theorem d_Rules_closeGap_15 : decode prog_5_method_14_code 15 = .ok (.iadd, 1) := by decide +kernel
theorem d_Rules_closeGap_16 : decode prog_5_method_14_code 16 = .ok (.iconst 1, 1) := by decide +kernel
theorem d_Rules_closeGap_17 : decode prog_5_method_14_code 17 = .ok (.iadd, 1) := by decide +kernel
theorem d_Rules_closeGap_18 : decode prog_5_method_14_code 18 = .ok (.iaload, 1) := by decide +kernel
theorem d_Rules_closeGap_19 : decode prog_5_method_14_code 19 = .ok (.iastore, 1) := by decide +kernel
theorem d_Rules_closeGap_20 : decode prog_5_method_14_code 20 = .ok (.iinc 3 1, 3) := by decide +kernel
theorem d_Rules_closeGap_23 : decode prog_5_method_14_code 23 = .ok (.goto (-21), 3) := by decide +kernel
theorem d_Rules_closeGap_26 : decode prog_5_method_14_code 26 = .ok (.aload_n 0, 1) := by decide +kernel
theorem d_Rules_closeGap_27 : decode prog_5_method_14_code 27 = .ok (.iload_n 1, 1) := by decide +kernel
theorem d_Rules_closeGap_28 : decode prog_5_method_14_code 28 = .ok (.bipush 8, 2) := by decide +kernel
theorem d_Rules_closeGap_30 : decode prog_5_method_14_code 30 = .ok (.iadd, 1) := by decide +kernel
theorem d_Rules_closeGap_31 : decode prog_5_method_14_code 31 = .ok (.iconst 1, 1) := by decide +kernel
theorem d_Rules_closeGap_32 : decode prog_5_method_14_code 32 = .ok (.isub, 1) := by decide +kernel
theorem d_Rules_closeGap_33 : decode prog_5_method_14_code 33 = .ok (.iconst 0, 1) := by decide +kernel
theorem d_Rules_closeGap_34 : decode prog_5_method_14_code 34 = .ok (.iastore, 1) := by decide +kernel
theorem d_Rules_closeGap_35 : decode prog_5_method_14_code 35 = .ok (.return_, 1) := by decide +kernel
set_option maxHeartbeats 4000000 in
set_option maxRecDepth 100000 in
theorem r_Rules_closeGap_2_b {p : Program} {l : Launch} {e : Env} {s : State} {m : MethodId} {args : Array Value} {below : List Frame} {meth : Method} {c : Code} {G : zG} {K : Nat} (X : zX p s m args meth c "AllHome$Rules" prog_5_method_14_code 4 none G (zA G K)) {h' : zH} (a0 : Nat) (x1 : Int32) (k2 : (Int32 × zH) → Option zH) (hk2 : ∀ (w : Int32 × zH), k2 w = some h' → ∀ (H : Heap) (locs : List Loc) (ls : Array Slot), zI G K s (zA G K) H locs w.2 → lv_has ls 4 [(0, .ref (G.1 a0)), (1, .int x1), (3, .int w.1)] → W p l e (zR 0) s m args below meth c H locs 0 0 (MQ below (zQv G K h') args s 0 0 (zA G K)) (F0 m 2 ls [])) (u : Int32 × zH) (hm : g_Rules_closeGap_2 a0 x1 k2 u = some h') {H : Heap} {locs : List Loc} {ls : Array Slot} (hI : zI G K s (zA G K) H locs u.2) (hl : lv_has ls 4 [(0, .ref (G.1 a0)), (1, .int x1), (3, .int u.1)]) : W p l e (zR 0) s m args below meth c H locs 0 0 (MQ below (zQv G K h') args s 0 0 (zA G K)) (F0 m 2 ls []) := by
  obtain ⟨hx, hb, hml, hown, hts, hr, hlocks, hK, hST, hNs⟩ := id X
  unfold g_Rules_closeGap_2 at hm
  refine lv_iload_n hx hb d_Rules_closeGap_2 rfl (lv_at hl 2 rfl) ?_
  refine lv_bipush (v := (nI 7)) hx hb d_Rules_closeGap_3 (by decide) ?_
  refine lv_icmp_ge (tgt := 26) hx hb d_Rules_closeGap_5 (by decide) (fun hc5 => ?_) (fun hc5 => ?_)
  · replace hm := zif_t hc5 hm
    refine lv_aload_n hx hb d_Rules_closeGap_26 rfl (lv_at hl 0 rfl) ?_
    refine lv_iload_n hx hb d_Rules_closeGap_27 rfl (lv_at hl 1 rfl) ?_
    refine lv_bipush (v := (nI 8)) hx hb d_Rules_closeGap_28 (by decide) ?_
    refine lv_iadd hx hb d_Rules_closeGap_30 ?_
    refine lv_iconst (v := (nI 1)) hx hb d_Rules_closeGap_31 (by decide) ?_
    refine lv_isub hx hb d_Rules_closeGap_32 ?_
    refine lv_iconst (v := (nI 0)) hx hb d_Rules_closeGap_33 (by decide) ?_
    obtain ⟨h34, hv, hm⟩ := zbd hm
    refine z_iast X hI hv d_Rules_closeGap_34 (fun H locs hI => ?_)
    obtain rfl := zs1 hm
    exact z_vret X hI d_Rules_closeGap_35
  · replace hm := zif_f hc5 hm
    refine lv_aload_n hx hb d_Rules_closeGap_8 rfl (lv_at hl 0 rfl) ?_
    refine lv_iload_n hx hb d_Rules_closeGap_9 rfl (lv_at hl 1 rfl) ?_
    refine lv_iload_n hx hb d_Rules_closeGap_10 rfl (lv_at hl 2 rfl) ?_
    refine lv_iadd hx hb d_Rules_closeGap_11 ?_
    refine lv_aload_n hx hb d_Rules_closeGap_12 rfl (lv_at hl 0 rfl) ?_
    refine lv_iload_n hx hb d_Rules_closeGap_13 rfl (lv_at hl 1 rfl) ?_
    refine lv_iload_n hx hb d_Rules_closeGap_14 rfl (lv_at hl 2 rfl) ?_
    refine lv_iadd hx hb d_Rules_closeGap_15 ?_
    refine lv_iconst (v := (nI 1)) hx hb d_Rules_closeGap_16 (by decide) ?_
    refine lv_iadd hx hb d_Rules_closeGap_17 ?_
    obtain ⟨v18, hv, hm⟩ := zbd hm
    refine z_iald X hI hv d_Rules_closeGap_18 ?_
    obtain ⟨h19, hv, hm⟩ := zbd hm
    refine z_iast X hI hv d_Rules_closeGap_19 (fun H locs hI => ?_)
    refine lv_iinc (v := (u.1 + (nI 1))) (lv' := [(3, .int (u.1 + (nI 1))), (0, .ref (G.1 a0)), (1, .int x1)]) hx hb d_Rules_closeGap_20 hl (k := 2) rfl (congrArg (fun z => u.1 + z) (show Int32.ofInt (1) = (nI 1) by decide)) (by decide) rfl (fun ls hl => ?_)
    refine lv_goto (tgt := 2) hx hb d_Rules_closeGap_23 (by decide) ?_
    obtain ⟨g0, e0⟩ : ∃ z, z = (u.1 + (nI 1)) := ⟨_, rfl⟩
    rw [← e0] at hm hl
    exact hk2 (g0, h19) hm _ _ _ hI (lv_sub hl [1, 2, 0] rfl)
theorem r_Rules_closeGap_2 {p : Program} {l : Launch} {e : Env} {s : State} {m : MethodId} {args : Array Value} {below : List Frame} {meth : Method} {c : Code} {G : zG} {K : Nat} (X : zX p s m args meth c "AllHome$Rules" prog_5_method_14_code 4 none G (zA G K)) {h' : zH} (a0 : Nat) (x1 : Int32) : ∀ (n : Nat) (w : Int32 × zH), zloop (g_Rules_closeGap_2 a0 x1) n w = some h' → ∀ (H : Heap) (locs : List Loc) (ls : Array Slot), zI G K s (zA G K) H locs w.2 → lv_has ls 4 [(0, .ref (G.1 a0)), (1, .int x1), (3, .int w.1)] → W p l e (zR 0) s m args below meth c H locs 0 0 (MQ below (zQv G K h') args s 0 0 (zA G K)) (F0 m 2 ls []) := by
  intro n
  induction n with
  | zero => intro w hm; cases hm
  | succ n ih => intro w hm H locs ls hI hl; exact r_Rules_closeGap_2_b X a0 x1 (zloop (g_Rules_closeGap_2 a0 x1) n) ih w (zls hm) hI hl
set_option maxHeartbeats 4000000 in
set_option maxRecDepth 100000 in
theorem r_Rules_closeGap_0 {p : Program} {l : Launch} {e : Env} {s : State} {m : MethodId} {args : Array Value} {below : List Frame} {meth : Method} {c : Code} {G : zG} {K : Nat} (X : zX p s m args meth c "AllHome$Rules" prog_5_method_14_code 4 none G (zA G K)) {h' : zH} (a0 : Nat) (x1 : Int32) (x2 : Int32) (h : zH) (hm : m_Rules_closeGap a0 x1 x2 h = some h') {H : Heap} {locs : List Loc} {ls : Array Slot} (hI : zI G K s (zA G K) H locs h) (hl : lv_has ls 4 [(0, .ref (G.1 a0)), (1, .int x1), (2, .int x2)]) : W p l e (zR 0) s m args below meth c H locs 0 0 (MQ below (zQv G K h') args s 0 0 (zA G K)) (F0 m 0 ls []) := by
  obtain ⟨hx, hb, hml, hown, hts, hr, hlocks, hK, hST, hNs⟩ := id X
  unfold m_Rules_closeGap at hm
  refine lv_iload_n hx hb d_Rules_closeGap_0 rfl (lv_at hl 2 rfl) ?_
  refine lv_istore_n (lv' := [(3, .int x2), (0, .ref (G.1 a0)), (1, .int x1), (2, .int x2)]) hx hb d_Rules_closeGap_1 rfl hl (by decide) rfl (fun ls hl => ?_)
  exact r_Rules_closeGap_2 X a0 x1 zN (x2, h) hm _ _ _ hI (lv_sub hl [1, 2, 0] rfl)
set_option maxHeartbeats 4000000 in
set_option maxRecDepth 100000 in
theorem c_Rules_closeGap (l : Launch) (G : zG) (K : Nat) (a0 : Nat) (x1 : Int32) (x2 : Int32) (h : zH) (h' : zH) (hm : m_Rules_closeGap a0 x1 x2 h = some h') : zMv l G K y_Rules_closeGap prog_5_method_14_code 4 0 [.ref (G.1 a0), .int x1, .int x2] h h' := zMet (by decide +kernel) (Nat.le_of_ble_eq_true rfl) (fun p e s m below meth c ls X hI hl => r_Rules_closeGap_0 X a0 x1 x2 h hm hI hl)
-- walk of AllHome$Rules.takeAwayWord
theorem d_Rules_takeAwayWord_0 : decode prog_5_method_13_code 0 = .ok (.aload_n 0, 1) := by decide +kernel
theorem d_Rules_takeAwayWord_1 : decode prog_5_method_13_code 1 = .ok (.bipush 18, 2) := by decide +kernel
theorem d_Rules_takeAwayWord_3 : decode prog_5_method_13_code 3 = .ok (.dup2, 1) := by decide +kernel
theorem d_Rules_takeAwayWord_4 : decode prog_5_method_13_code 4 = .ok (.iaload, 1) := by decide +kernel
theorem d_Rules_takeAwayWord_5 : decode prog_5_method_13_code 5 = .ok (.iconst 1, 1) := by decide +kernel
theorem d_Rules_takeAwayWord_6 : decode prog_5_method_13_code 6 = .ok (.isub, 1) := by decide +kernel
theorem d_Rules_takeAwayWord_7 : decode prog_5_method_13_code 7 = .ok (.iastore, 1) := by decide +kernel
theorem d_Rules_takeAwayWord_8 : decode prog_5_method_13_code 8 = .ok (.aload_n 0, 1) := by decide +kernel
theorem d_Rules_takeAwayWord_9 : decode prog_5_method_13_code 9 = .ok (.bipush 19, 2) := by decide +kernel
theorem d_Rules_takeAwayWord_11 : decode prog_5_method_13_code 11 = .ok (.iload_n 1, 1) := by decide +kernel
theorem d_Rules_takeAwayWord_12 : decode prog_5_method_13_code 12 = .ok (.invokestatic 94, 3) := by decide +kernel
theorem d_Rules_takeAwayWord_15 : decode prog_5_method_13_code 15 = .ok (.aload_n 0, 1) := by decide +kernel
theorem d_Rules_takeAwayWord_16 : decode prog_5_method_13_code 16 = .ok (.bipush 27, 2) := by decide +kernel
theorem d_Rules_takeAwayWord_18 : decode prog_5_method_13_code 18 = .ok (.iload_n 1, 1) := by decide +kernel
theorem d_Rules_takeAwayWord_19 : decode prog_5_method_13_code 19 = .ok (.invokestatic 94, 3) := by decide +kernel
theorem d_Rules_takeAwayWord_22 : decode prog_5_method_13_code 22 = .ok (.aload_n 0, 1) := by decide +kernel
theorem d_Rules_takeAwayWord_23 : decode prog_5_method_13_code 23 = .ok (.bipush 35, 2) := by decide +kernel
theorem d_Rules_takeAwayWord_25 : decode prog_5_method_13_code 25 = .ok (.iload_n 1, 1) := by decide +kernel
theorem d_Rules_takeAwayWord_26 : decode prog_5_method_13_code 26 = .ok (.invokestatic 94, 3) := by decide +kernel
theorem d_Rules_takeAwayWord_29 : decode prog_5_method_13_code 29 = .ok (.return_, 1) := by decide +kernel
set_option maxHeartbeats 4000000 in
set_option maxRecDepth 100000 in
theorem r_Rules_takeAwayWord_0 {p : Program} {l : Launch} {e : Env} {s : State} {m : MethodId} {args : Array Value} {below : List Frame} {meth : Method} {c : Code} {G : zG} {K : Nat} (X : zX p s m args meth c "AllHome$Rules" prog_5_method_13_code 2 none G (zA G K)) {h' : zH} (a0 : Nat) (x1 : Int32) (h : zH) (hm : m_Rules_takeAwayWord a0 x1 h = some h') {H : Heap} {locs : List Loc} {ls : Array Slot} (hI : zI G K s (zA G K) H locs h) (hl : lv_has ls 2 [(0, .ref (G.1 a0)), (1, .int x1)]) : W p l e (zR 1) s m args below meth c H locs 0 0 (MQ below (zQv G K h') args s 0 0 (zA G K)) (F0 m 0 ls []) := by
  obtain ⟨hx, hb, hml, hown, hts, hr, hlocks, hK, hST, hNs⟩ := id X
  unfold m_Rules_takeAwayWord at hm
  refine lv_aload_n hx hb d_Rules_takeAwayWord_0 rfl (lv_at hl 0 rfl) ?_
  refine lv_bipush (v := (nI 18)) hx hb d_Rules_takeAwayWord_1 (by decide) ?_
  refine lv_dup2_11 hx hb d_Rules_takeAwayWord_3 rfl rfl ?_
  obtain ⟨v4, hv, hm⟩ := zbd hm
  refine z_iald X hI hv d_Rules_takeAwayWord_4 ?_
  refine lv_iconst (v := (nI 1)) hx hb d_Rules_takeAwayWord_5 (by decide) ?_
  refine lv_isub hx hb d_Rules_takeAwayWord_6 ?_
  obtain ⟨h7, hv, hm⟩ := zbd hm
  refine z_iast X hI hv d_Rules_takeAwayWord_7 (fun H locs hI => ?_)
  refine lv_aload_n hx hb d_Rules_takeAwayWord_8 rfl (lv_at hl 0 rfl) ?_
  refine lv_bipush (v := (nI 19)) hx hb d_Rules_takeAwayWord_9 (by decide) ?_
  refine lv_iload_n hx hb d_Rules_takeAwayWord_11 rfl (lv_at hl 1 rfl) ?_
  obtain ⟨h12, hv, hm⟩ := zbd hm
  refine z_cv hI (z_runS (As := [.ref (G.1 a0), .int (nI 19), .int x1]) (rest := []) X hI hl.1 (c_Rules_closeGap l G K a0 (nI 19) x1 h7 _ hv) C_Rules_94 rfl (Nat.le_of_ble_eq_true rfl) ⟨Nat.le_of_ble_eq_true rfl, Nat.le_of_ble_eq_true rfl, Nat.zero_le _, Nat.zero_le _⟩ rfl d_Rules_takeAwayWord_12) (fun H locs hI => ?_)
  refine lv_aload_n hx hb d_Rules_takeAwayWord_15 rfl (lv_at hl 0 rfl) ?_
  refine lv_bipush (v := (nI 27)) hx hb d_Rules_takeAwayWord_16 (by decide) ?_
  refine lv_iload_n hx hb d_Rules_takeAwayWord_18 rfl (lv_at hl 1 rfl) ?_
  obtain ⟨h19, hv, hm⟩ := zbd hm
  refine z_cv hI (z_runS (As := [.ref (G.1 a0), .int (nI 27), .int x1]) (rest := []) X hI hl.1 (c_Rules_closeGap l G K a0 (nI 27) x1 h12 _ hv) C_Rules_94 rfl (Nat.le_of_ble_eq_true rfl) ⟨Nat.le_of_ble_eq_true rfl, Nat.le_of_ble_eq_true rfl, Nat.zero_le _, Nat.zero_le _⟩ rfl d_Rules_takeAwayWord_19) (fun H locs hI => ?_)
  refine lv_aload_n hx hb d_Rules_takeAwayWord_22 rfl (lv_at hl 0 rfl) ?_
  refine lv_bipush (v := (nI 35)) hx hb d_Rules_takeAwayWord_23 (by decide) ?_
  refine lv_iload_n hx hb d_Rules_takeAwayWord_25 rfl (lv_at hl 1 rfl) ?_
  obtain ⟨h26, hv, hm⟩ := zbd hm
  refine z_cv hI (z_runS (As := [.ref (G.1 a0), .int (nI 35), .int x1]) (rest := []) X hI hl.1 (c_Rules_closeGap l G K a0 (nI 35) x1 h19 _ hv) C_Rules_94 rfl (Nat.le_of_ble_eq_true rfl) ⟨Nat.le_of_ble_eq_true rfl, Nat.le_of_ble_eq_true rfl, Nat.zero_le _, Nat.zero_le _⟩ rfl d_Rules_takeAwayWord_26) (fun H locs hI => ?_)
  obtain rfl := zs1 hm
  exact z_vret X hI d_Rules_takeAwayWord_29
set_option maxHeartbeats 4000000 in
set_option maxRecDepth 100000 in
theorem c_Rules_takeAwayWord (l : Launch) (G : zG) (K : Nat) (a0 : Nat) (x1 : Int32) (h : zH) (h' : zH) (hm : m_Rules_takeAwayWord a0 x1 h = some h') : zMv l G K y_Rules_takeAwayWord prog_5_method_13_code 2 1 [.ref (G.1 a0), .int x1] h h' := zMet (by decide +kernel) (Nat.le_of_ble_eq_true rfl) (fun p e s m below meth c ls X hI hl => r_Rules_takeAwayWord_0 X a0 x1 h hm hI hl)
-- walk of AllHome$Rules.joinTree
theorem d_Rules_joinTree_0 : decode prog_5_method_11_code 0 = .ok (.aload_n 0, 1) := by decide +kernel
theorem d_Rules_joinTree_1 : decode prog_5_method_11_code 1 = .ok (.bipush 87, 2) := by decide +kernel
theorem d_Rules_joinTree_3 : decode prog_5_method_11_code 3 = .ok (.iload_n 2, 1) := by decide +kernel
theorem d_Rules_joinTree_4 : decode prog_5_method_11_code 4 = .ok (.iadd, 1) := by decide +kernel
theorem d_Rules_joinTree_5 : decode prog_5_method_11_code 5 = .ok (.iaload, 1) := by decide +kernel
theorem d_Rules_joinTree_6 : decode prog_5_method_11_code 6 = .ok (.iconst 1, 1) := by decide +kernel
theorem d_Rules_joinTree_7 : decode prog_5_method_11_code 7 = .ok (.if_icmp .ne 11, 3) := by decide +kernel
theorem d_Rules_joinTree_10 : decode prog_5_method_11_code 10 = .ok (.aload_n 0, 1) := by decide +kernel
theorem d_Rules_joinTree_11 : decode prog_5_method_11_code 11 = .ok (.iload_n 1, 1) := by decide +kernel
theorem d_Rules_joinTree_12 : decode prog_5_method_11_code 12 = .ok (.iconst 0, 1) := by decide +kernel
theorem d_Rules_joinTree_13 : decode prog_5_method_11_code 13 = .ok (.iconst 0, 1) := by decide +kernel
theorem d_Rules_joinTree_14 : decode prog_5_method_11_code 14 = .ok (.invokestatic 77, 3) := by decide +kernel
theorem d_Rules_joinTree_17 : decode prog_5_method_11_code 17 = .ok (.ireturn, 1) := by decide +kernel
theorem d_Rules_joinTree_18 : decode prog_5_method_11_code 18 = .ok (.aload_n 0, 1) := by decide +kernel
theorem d_Rules_joinTree_19 : decode prog_5_method_11_code 19 = .ok (.bipush 87, 2) := by decide +kernel
theorem d_Rules_joinTree_21 : decode prog_5_method_11_code 21 = .ok (.iload_n 2, 1) := by decide +kernel
theorem d_Rules_joinTree_22 : decode prog_5_method_11_code 22 = .ok (.iadd, 1) := by decide +kernel
theorem d_Rules_joinTree_23 : decode prog_5_method_11_code 23 = .ok (.iconst 1, 1) := by decide +kernel
theorem d_Rules_joinTree_24 : decode prog_5_method_11_code 24 = .ok (.iastore, 1) := by decide +kernel
theorem d_Rules_joinTree_25 : decode prog_5_method_11_code 25 = .ok (.aload_n 0, 1) := by decide +kernel
theorem d_Rules_joinTree_26 : decode prog_5_method_11_code 26 = .ok (.bipush 81, 2) := by decide +kernel
theorem d_Rules_joinTree_28 : decode prog_5_method_11_code 28 = .ok (.iload_n 2, 1) := by decide +kernel
theorem d_Rules_joinTree_29 : decode prog_5_method_11_code 29 = .ok (.iadd, 1) := by decide +kernel
theorem d_Rules_joinTree_30 : decode prog_5_method_11_code 30 = .ok (.iload_n 1, 1) := by decide +kernel
theorem d_Rules_joinTree_31 : decode prog_5_method_11_code 31 = .ok (.iastore, 1) := by decide +kernel
theorem d_Rules_joinTree_32 : decode prog_5_method_11_code 32 = .ok (.iconst 1, 1) := by decide +kernel
theorem d_Rules_joinTree_33 : decode prog_5_method_11_code 33 = .ok (.ireturn, 1) := by decide +kernel
set_option maxHeartbeats 4000000 in
set_option maxRecDepth 100000 in
theorem r_Rules_joinTree_0 {p : Program} {l : Launch} {e : Env} {s : State} {m : MethodId} {args : Array Value} {below : List Frame} {meth : Method} {c : Code} {G : zG} {K : Nat} (X : zX p s m args meth c "AllHome$Rules" prog_5_method_11_code 3 (some .int) G (zA G K)) {r : Int32} {h' : zH} (a0 : Nat) (x1 : Int32) (x2 : Int32) (h : zH) (hm : m_Rules_joinTree a0 x1 x2 h = some (r, h')) {H : Heap} {locs : List Loc} {ls : Array Slot} (hI : zI G K s (zA G K) H locs h) (hl : lv_has ls 3 [(0, .ref (G.1 a0)), (1, .int x1), (2, .int x2)]) : W p l e (zR 1) s m args below meth c H locs 0 0 (MQ below (zQi G K r h') args s 0 0 (zA G K)) (F0 m 0 ls []) := by
  obtain ⟨hx, hb, hml, hown, hts, hr, hlocks, hK, hST, hNs⟩ := id X
  unfold m_Rules_joinTree at hm
  refine lv_aload_n hx hb d_Rules_joinTree_0 rfl (lv_at hl 0 rfl) ?_
  refine lv_bipush (v := (nI 87)) hx hb d_Rules_joinTree_1 (by decide) ?_
  refine lv_iload_n hx hb d_Rules_joinTree_3 rfl (lv_at hl 2 rfl) ?_
  refine lv_iadd hx hb d_Rules_joinTree_4 ?_
  obtain ⟨v5, hv, hm⟩ := zbd hm
  refine z_iald X hI hv d_Rules_joinTree_5 ?_
  refine lv_iconst (v := (nI 1)) hx hb d_Rules_joinTree_6 (by decide) ?_
  refine lv_icmp_ne (tgt := 18) hx hb d_Rules_joinTree_7 (by decide) (fun hc7 => ?_) (fun hc7 => ?_)
  · replace hm := zif_f hc7 hm
    refine lv_aload_n hx hb d_Rules_joinTree_18 rfl (lv_at hl 0 rfl) ?_
    refine lv_bipush (v := (nI 87)) hx hb d_Rules_joinTree_19 (by decide) ?_
    refine lv_iload_n hx hb d_Rules_joinTree_21 rfl (lv_at hl 2 rfl) ?_
    refine lv_iadd hx hb d_Rules_joinTree_22 ?_
    refine lv_iconst (v := (nI 1)) hx hb d_Rules_joinTree_23 (by decide) ?_
    obtain ⟨h24, hv, hm⟩ := zbd hm
    refine z_iast X hI hv d_Rules_joinTree_24 (fun H locs hI => ?_)
    refine lv_aload_n hx hb d_Rules_joinTree_25 rfl (lv_at hl 0 rfl) ?_
    refine lv_bipush (v := (nI 81)) hx hb d_Rules_joinTree_26 (by decide) ?_
    refine lv_iload_n hx hb d_Rules_joinTree_28 rfl (lv_at hl 2 rfl) ?_
    refine lv_iadd hx hb d_Rules_joinTree_29 ?_
    refine lv_iload_n hx hb d_Rules_joinTree_30 rfl (lv_at hl 1 rfl) ?_
    obtain ⟨h31, hv, hm⟩ := zbd hm
    refine z_iast X hI hv d_Rules_joinTree_31 (fun H locs hI => ?_)
    refine lv_iconst (v := (nI 1)) hx hb d_Rules_joinTree_32 (by decide) ?_
    obtain ⟨rfl, rfl⟩ := zs2 hm
    exact z_iret X hI d_Rules_joinTree_33
  · replace hm := zif_t hc7 hm
    refine lv_aload_n hx hb d_Rules_joinTree_10 rfl (lv_at hl 0 rfl) ?_
    refine lv_iload_n hx hb d_Rules_joinTree_11 rfl (lv_at hl 1 rfl) ?_
    refine lv_iconst (v := (nI 0)) hx hb d_Rules_joinTree_12 (by decide) ?_
    refine lv_iconst (v := (nI 0)) hx hb d_Rules_joinTree_13 (by decide) ?_
    obtain ⟨v14, h14, hv, hm⟩ := zb2_at hm
    refine z_ci hI (z_runS (As := [.ref (G.1 a0), .int x1, .int (nI 0), .int (nI 0)]) (rest := []) X hI hl.1 (c_Rules_sendNote l G K a0 x1 (nI 0) (nI 0) h _ _ hv) C_Rules_77 rfl (Nat.le_of_ble_eq_true rfl) ⟨Nat.le_of_ble_eq_true rfl, Nat.le_of_ble_eq_true rfl, Nat.zero_le _, Nat.zero_le _⟩ rfl d_Rules_joinTree_14) (fun H locs hI => ?_)
    obtain ⟨rfl, rfl⟩ := zs2 hm
    exact z_iret X hI d_Rules_joinTree_17
set_option maxHeartbeats 4000000 in
set_option maxRecDepth 100000 in
theorem c_Rules_joinTree (l : Launch) (G : zG) (K : Nat) (a0 : Nat) (x1 : Int32) (x2 : Int32) (h : zH) (r : Int32) (h' : zH) (hm : m_Rules_joinTree a0 x1 x2 h = some (r, h')) : zMi l G K y_Rules_joinTree prog_5_method_11_code 3 1 [.ref (G.1 a0), .int x1, .int x2] h r h' := zMet (by decide +kernel) (Nat.le_of_ble_eq_true rfl) (fun p e s m below meth c ls X hI hl => r_Rules_joinTree_0 X a0 x1 x2 h hm hI hl)
-- walk of AllHome$Rules.comeWord
theorem d_Rules_comeWord_0 : decode prog_5_method_10_code 0 = .ok (.aload_n 1, 1) := by decide +kernel
theorem d_Rules_comeWord_1 : decode prog_5_method_10_code 1 = .ok (.bipush 18, 2) := by decide +kernel
theorem d_Rules_comeWord_3 : decode prog_5_method_10_code 3 = .ok (.iload_n 2, 1) := by decide +kernel
theorem d_Rules_comeWord_4 : decode prog_5_method_10_code 4 = .ok (.invokestatic 84, 3) := by decide +kernel
theorem d_Rules_comeWord_7 : decode prog_5_method_10_code 7 = .ok (.ifCond .ne 6, 3) := by decide +kernel
theorem d_Rules_comeWord_10 : decode prog_5_method_10_code 10 = .ok (.bipush (-5), 2) := by decide +kernel
theorem d_Rules_comeWord_12 : decode prog_5_method_10_code 12 = .ok (.ireturn, 1) := by decide +kernel
theorem d_Rules_comeWord_13 : decode prog_5_method_10_code 13 = .ok (.aload_n 1, 1) := by decide +kernel
theorem d_Rules_comeWord_14 : decode prog_5_method_10_code 14 = .ok (.bipush 19, 2) := by decide +kernel
theorem d_Rules_comeWord_16 : decode prog_5_method_10_code 16 = .ok (.iload_n 2, 1) := by decide +kernel
theorem d_Rules_comeWord_17 : decode prog_5_method_10_code 17 = .ok (.iadd, 1) := by decide +kernel
theorem d_Rules_comeWord_18 : decode prog_5_method_10_code 18 = .ok (.iaload, 1) := by decide +kernel
theorem d_Rules_comeWord_19 : decode prog_5_method_10_code 19 = .ok (.istore_n 3, 1) := by decide +kernel
theorem d_Rules_comeWord_20 : decode prog_5_method_10_code 20 = .ok (.aload_n 1, 1) := by decide +kernel
theorem d_Rules_comeWord_21 : decode prog_5_method_10_code 21 = .ok (.bipush 27, 2) := by decide +kernel
theorem d_Rules_comeWord_23 : decode prog_5_method_10_code 23 = .ok (.iload_n 2, 1) := by decide +kernel
theorem d_Rules_comeWord_24 : decode prog_5_method_10_code 24 = .ok (.iadd, 1) := by decide +kernel
theorem d_Rules_comeWord_25 : decode prog_5_method_10_code 25 = .ok (.iaload, 1) := by decide +kernel
theorem d_Rules_comeWord_26 : decode prog_5_method_10_code 26 = .ok (.istore 4, 2) := by decide +kernel
theorem d_Rules_comeWord_28 : decode prog_5_method_10_code 28 = .ok (.aload_n 1, 1) := by decide +kernel
theorem d_Rules_comeWord_29 : decode prog_5_method_10_code 29 = .ok (.bipush 35, 2) := by decide +kernel
theorem d_Rules_comeWord_31 : decode prog_5_method_10_code 31 = .ok (.iload_n 2, 1) := by decide +kernel
theorem d_Rules_comeWord_32 : decode prog_5_method_10_code 32 = .ok (.iadd, 1) := by decide +kernel
theorem d_Rules_comeWord_33 : decode prog_5_method_10_code 33 = .ok (.iaload, 1) := by decide +kernel
theorem d_Rules_comeWord_34 : decode prog_5_method_10_code 34 = .ok (.istore 5, 2) := by decide +kernel
theorem d_Rules_comeWord_36 : decode prog_5_method_10_code 36 = .ok (.aload_n 0, 1) := by decide +kernel
theorem d_Rules_comeWord_37 : decode prog_5_method_10_code 37 = .ok (.getfield 9, 3) := by decide +kernel
theorem d_Rules_comeWord_40 : decode prog_5_method_10_code 40 = .ok (.iload 4, 2) := by decide +kernel
theorem d_Rules_comeWord_42 : decode prog_5_method_10_code 42 = .ok (.invokevirtual 60, 3) := by decide +kernel
theorem d_Rules_comeWord_45 : decode prog_5_method_10_code 45 = .ok (.ifCond .ne 6, 3) := by decide +kernel
theorem d_Rules_comeWord_48 : decode prog_5_method_10_code 48 = .ok (.bipush (-5), 2) := by decide +kernel
theorem d_Rules_comeWord_50 : decode prog_5_method_10_code 50 = .ok (.ireturn, 1) := by decide +kernel
theorem d_Rules_comeWord_51 : decode prog_5_method_10_code 51 = .ok (.aload_n 1, 1) := by decide +kernel
theorem d_Rules_comeWord_52 : decode prog_5_method_10_code 52 = .ok (.iload_n 2, 1) := by decide +kernel
theorem d_Rules_comeWord_53 : decode prog_5_method_10_code 53 = .ok (.invokestatic 88, 3) := by decide +kernel
theorem d_Rules_comeWord_56 : decode prog_5_method_10_code 56 = .ok (.aload_n 1, 1) := by decide +kernel
theorem d_Rules_comeWord_57 : decode prog_5_method_10_code 57 = .ok (.iconst 0, 1) := by decide +kernel
theorem d_Rules_comeWord_58 : decode prog_5_method_10_code 58 = .ok (.iload 4, 2) := by decide +kernel
theorem d_Rules_comeWord_60 : decode prog_5_method_10_code 60 = .ok (.iadd, 1) := by decide +kernel
theorem d_Rules_comeWord_61 : decode prog_5_method_10_code 61 = .ok (.iaload, 1) := by decide +kernel
theorem d_Rules_comeWord_62 : decode prog_5_method_10_code 62 = .ok (.ifCond .ne 29, 3) := by decide +kernel
theorem d_Rules_comeWord_65 : decode prog_5_method_10_code 65 = .ok (.aload_n 1, 1) := by decide +kernel
theorem d_Rules_comeWord_66 : decode prog_5_method_10_code 66 = .ok (.iconst 0, 1) := by decide +kernel
theorem d_Rules_comeWord_67 : decode prog_5_method_10_code 67 = .ok (.iload 4, 2) := by decide +kernel
theorem d_Rules_comeWord_69 : decode prog_5_method_10_code 69 = .ok (.iadd, 1) := by decide +kernel
theorem d_Rules_comeWord_70 : decode prog_5_method_10_code 70 = .ok (.iconst 1, 1) := by decide +kernel
theorem d_Rules_comeWord_71 : decode prog_5_method_10_code 71 = .ok (.iastore, 1) := by decide +kernel
theorem d_Rules_comeWord_72 : decode prog_5_method_10_code 72 = .ok (.aload_n 1, 1) := by decide +kernel
theorem d_Rules_comeWord_73 : decode prog_5_method_10_code 73 = .ok (.bipush 6, 2) := by decide +kernel
theorem d_Rules_comeWord_75 : decode prog_5_method_10_code 75 = .ok (.iload 4, 2) := by decide +kernel
theorem d_Rules_comeWord_77 : decode prog_5_method_10_code 77 = .ok (.iadd, 1) := by decide +kernel
theorem d_Rules_comeWord_78 : decode prog_5_method_10_code 78 = .ok (.dup2, 1) := by decide +kernel
theorem d_Rules_comeWord_79 : decode prog_5_method_10_code 79 = .ok (.iaload, 1) := by decide +kernel
theorem d_Rules_comeWord_80 : decode prog_5_method_10_code 80 = .ok (.iconst 1, 1) := by decide +kernel
theorem d_Rules_comeWord_81 : decode prog_5_method_10_code 81 = .ok (.iadd, 1) := by decide +kernel
theorem d_Rules_comeWord_82 : decode prog_5_method_10_code 82 = .ok (.iastore, 1) := by decide +kernel
theorem d_Rules_comeWord_83 : decode prog_5_method_10_code 83 = .ok (.aload_n 1, 1) := by decide +kernel
theorem d_Rules_comeWord_84 : decode prog_5_method_10_code 84 = .ok (.bipush 12, 2) := by decide +kernel
theorem d_Rules_comeWord_86 : decode prog_5_method_10_code 86 = .ok (.iload 4, 2) := by decide +kernel
theorem d_Rules_comeWord_88 : decode prog_5_method_10_code 88 = .ok (.iadd, 1) := by decide +kernel
theorem d_Rules_comeWord_89 : decode prog_5_method_10_code 89 = .ok (.iconst 0, 1) := by decide +kernel
theorem d_Rules_comeWord_90 : decode prog_5_method_10_code 90 = .ok (.iastore, 1) := by decide +kernel
theorem d_Rules_comeWord_91 : decode prog_5_method_10_code 91 = .ok (.aload_n 0, 1) := by decide +kernel
theorem d_Rules_comeWord_92 : decode prog_5_method_10_code 92 = .ok (.getfield 15, 3) := by decide +kernel
theorem d_Rules_comeWord_95 : decode prog_5_method_10_code 95 = .ok (.tableswitch 105 1 5 #[33, 48, 105, 56, 91], 33) := by decide +kernel
theorem d_Rules_comeWord_128 : decode prog_5_method_10_code 128 = .ok (.aload_n 1, 1) := by decide +kernel
theorem d_Rules_comeWord_129 : decode prog_5_method_10_code 129 = .ok (.bipush 68, 2) := by decide +kernel
theorem d_Rules_comeWord_131 : decode prog_5_method_10_code 131 = .ok (.iload 4, 2) := by decide +kernel
theorem d_Rules_comeWord_133 : decode prog_5_method_10_code 133 = .ok (.iadd, 1) := by decide +kernel
theorem d_Rules_comeWord_134 : decode prog_5_method_10_code 134 = .ok (.dup2, 1) := by decide +kernel
theorem d_Rules_comeWord_135 : decode prog_5_method_10_code 135 = .ok (.iaload, 1) := by decide +kernel
theorem d_Rules_comeWord_136 : decode prog_5_method_10_code 136 = .ok (.iload 5, 2) := by decide +kernel
theorem d_Rules_comeWord_138 : decode prog_5_method_10_code 138 = .ok (.iadd, 1) := by decide +kernel
theorem d_Rules_comeWord_139 : decode prog_5_method_10_code 139 = .ok (.iastore, 1) := by decide +kernel
theorem d_Rules_comeWord_140 : decode prog_5_method_10_code 140 = .ok (.goto 60, 3) := by decide +kernel
theorem d_Rules_comeWord_143 : decode prog_5_method_10_code 143 = .ok (.aload_n 1, 1) := by decide +kernel
theorem d_Rules_comeWord_144 : decode prog_5_method_10_code 144 = .ok (.iload_n 3, 1) := by decide +kernel
theorem d_Rules_comeWord_145 : decode prog_5_method_10_code 145 = .ok (.iload 4, 2) := by decide +kernel
theorem d_Rules_comeWord_147 : decode prog_5_method_10_code 147 = .ok (.invokestatic 91, 3) := by decide +kernel
theorem d_Rules_comeWord_150 : decode prog_5_method_10_code 150 = .ok (.ireturn, 1) := by decide +kernel
theorem d_Rules_comeWord_151 : decode prog_5_method_10_code 151 = .ok (.aload_n 1, 1) := by decide +kernel
theorem d_Rules_comeWord_152 : decode prog_5_method_10_code 152 = .ok (.bipush 93, 2) := by decide +kernel
theorem d_Rules_comeWord_154 : decode prog_5_method_10_code 154 = .ok (.iload 4, 2) := by decide +kernel
theorem d_Rules_comeWord_156 : decode prog_5_method_10_code 156 = .ok (.iadd, 1) := by decide +kernel
theorem d_Rules_comeWord_157 : decode prog_5_method_10_code 157 = .ok (.dup2, 1) := by decide +kernel
theorem d_Rules_comeWord_158 : decode prog_5_method_10_code 158 = .ok (.iaload, 1) := by decide +kernel
theorem d_Rules_comeWord_159 : decode prog_5_method_10_code 159 = .ok (.iconst 1, 1) := by decide +kernel
theorem d_Rules_comeWord_160 : decode prog_5_method_10_code 160 = .ok (.isub, 1) := by decide +kernel
theorem d_Rules_comeWord_161 : decode prog_5_method_10_code 161 = .ok (.iastore, 1) := by decide +kernel
theorem d_Rules_comeWord_162 : decode prog_5_method_10_code 162 = .ok (.aload_n 1, 1) := by decide +kernel
theorem d_Rules_comeWord_163 : decode prog_5_method_10_code 163 = .ok (.bipush 99, 2) := by decide +kernel
theorem d_Rules_comeWord_165 : decode prog_5_method_10_code 165 = .ok (.iload 4, 2) := by decide +kernel
theorem d_Rules_comeWord_167 : decode prog_5_method_10_code 167 = .ok (.iadd, 1) := by decide +kernel
theorem d_Rules_comeWord_168 : decode prog_5_method_10_code 168 = .ok (.aload_n 0, 1) := by decide +kernel
theorem d_Rules_comeWord_169 : decode prog_5_method_10_code 169 = .ok (.getfield 23, 3) := by decide +kernel
theorem d_Rules_comeWord_172 : decode prog_5_method_10_code 172 = .ok (.bipush 7, 2) := by decide +kernel
theorem d_Rules_comeWord_174 : decode prog_5_method_10_code 174 = .ok (.if_icmp .ne 7, 3) := by decide +kernel
theorem d_Rules_comeWord_177 : decode prog_5_method_10_code 177 = .ok (.iconst 0, 1) := by decide +kernel
theorem d_Rules_comeWord_178 : decode prog_5_method_10_code 178 = .ok (.goto 4, 3) := by decide +kernel
theorem d_Rules_comeWord_181 : decode prog_5_method_10_code 181 = .ok (.iconst 1, 1) := by decide +kernel
theorem d_Rules_comeWord_182 : decode prog_5_method_10_code 182 = .ok (.iastore, 1) := by decide +kernel
theorem d_Rules_comeWord_183 : decode prog_5_method_10_code 183 = .ok (.goto 17, 3) := by decide +kernel
theorem d_Rules_comeWord_186 : decode prog_5_method_10_code 186 = .ok (.aload_n 1, 1) := by decide +kernel
theorem d_Rules_comeWord_187 : decode prog_5_method_10_code 187 = .ok (.bipush 111, 2) := by decide +kernel
theorem d_Rules_comeWord_189 : decode prog_5_method_10_code 189 = .ok (.iload 4, 2) := by decide +kernel
theorem d_Rules_comeWord_191 : decode prog_5_method_10_code 191 = .ok (.iadd, 1) := by decide +kernel
theorem d_Rules_comeWord_192 : decode prog_5_method_10_code 192 = .ok (.dup2, 1) := by decide +kernel
theorem d_Rules_comeWord_193 : decode prog_5_method_10_code 193 = .ok (.iaload, 1) := by decide +kernel
theorem d_Rules_comeWord_194 : decode prog_5_method_10_code 194 = .ok (.iconst 1, 1) := by decide +kernel
theorem d_Rules_comeWord_195 : decode prog_5_method_10_code 195 = .ok (.iadd, 1) := by decide +kernel
theorem d_Rules_comeWord_196 : decode prog_5_method_10_code 196 = .ok (.iastore, 1) := by decide +kernel
theorem d_Rules_comeWord_197 : decode prog_5_method_10_code 197 = .ok (.goto 3, 3) := by decide +kernel
theorem d_Rules_comeWord_200 : decode prog_5_method_10_code 200 = .ok (.iconst 1, 1) := by decide +kernel
theorem d_Rules_comeWord_201 : decode prog_5_method_10_code 201 = .ok (.ireturn, 1) := by decide +kernel
set_option maxHeartbeats 4000000 in
set_option maxRecDepth 100000 in
theorem r_Rules_comeWord_91 {p : Program} {l : Launch} {e : Env} {s : State} {m : MethodId} {args : Array Value} {below : List Frame} {meth : Method} {c : Code} {G : zG} {K : Nat} (X : zX p s m args meth c "AllHome$Rules" prog_5_method_10_code 6 (some .int) G (zA G K)) {r : Int32} {h' : zH} (a0 : Nat) (a1 : Nat) (x3 : Int32) (x4 : Int32) (x5 : Int32) (h : zH) (hm : g_Rules_comeWord_91 a0 a1 x3 x4 x5 h = some (r, h')) {H : Heap} {locs : List Loc} {ls : Array Slot} (hI : zI G K s (zA G K) H locs h) (hl : lv_has ls 6 [(0, .ref (G.1 a0)), (1, .ref (G.1 a1)), (3, .int x3), (4, .int x4), (5, .int x5)]) : W p l e (zR 2) s m args below meth c H locs 0 0 (MQ below (zQi G K r h') args s 0 0 (zA G K)) (F0 m 91 ls []) := by
  obtain ⟨hx, hb, hml, hown, hts, hr, hlocks, hK, hST, hNs⟩ := id X
  unfold g_Rules_comeWord_91 at hm
  refine lv_aload_n hx hb d_Rules_comeWord_91 rfl (lv_at hl 0 rfl) ?_
  obtain ⟨v92, hv, hm⟩ := zbd hm
  refine z_getI X hI F_Rules_15 hv d_Rules_comeWord_92 ?_
  by_cases hs95_0 : v92 = (nI 1)
  · replace hm := zif_t hs95_0 hm
    refine lv_tableIn (off := 33) (tgt := 128) hx hb d_Rules_comeWord_95 (by rw [hs95_0]; decide) (by rw [hs95_0]; decide) (by rw [hs95_0]; rfl) (by decide) ?_
    refine lv_aload_n hx hb d_Rules_comeWord_128 rfl (lv_at hl 1 rfl) ?_
    refine lv_bipush (v := (nI 68)) hx hb d_Rules_comeWord_129 (by decide) ?_
    refine lv_iload hx hb d_Rules_comeWord_131 (lv_at hl 3 rfl) ?_
    refine lv_iadd hx hb d_Rules_comeWord_133 ?_
    refine lv_dup2_11 hx hb d_Rules_comeWord_134 rfl rfl ?_
    obtain ⟨v135, hv, hm⟩ := zbd hm
    refine z_iald X hI hv d_Rules_comeWord_135 ?_
    refine lv_iload hx hb d_Rules_comeWord_136 (lv_at hl 4 rfl) ?_
    refine lv_iadd hx hb d_Rules_comeWord_138 ?_
    obtain ⟨h139, hv, hm⟩ := zbd hm
    refine z_iast X hI hv d_Rules_comeWord_139 (fun H locs hI => ?_)
    refine lv_goto (tgt := 200) hx hb d_Rules_comeWord_140 (by decide) ?_
    refine lv_iconst (v := (nI 1)) hx hb d_Rules_comeWord_200 (by decide) ?_
    obtain ⟨rfl, rfl⟩ := zs2 hm
    exact z_iret X hI d_Rules_comeWord_201
  · replace hm := zif_f hs95_0 hm
    by_cases hs95_1 : v92 = (nI 2)
    · replace hm := zif_t hs95_1 hm
      refine lv_tableIn (off := 48) (tgt := 143) hx hb d_Rules_comeWord_95 (by rw [hs95_1]; decide) (by rw [hs95_1]; decide) (by rw [hs95_1]; rfl) (by decide) ?_
      refine lv_aload_n hx hb d_Rules_comeWord_143 rfl (lv_at hl 1 rfl) ?_
      refine lv_iload_n hx hb d_Rules_comeWord_144 rfl (lv_at hl 2 rfl) ?_
      refine lv_iload hx hb d_Rules_comeWord_145 (lv_at hl 3 rfl) ?_
      obtain ⟨v147, h147, hv, hm⟩ := zb2_at hm
      refine z_ci hI (z_runS (As := [.ref (G.1 a1), .int x3, .int x4]) (rest := []) X hI hl.1 (c_Rules_joinTree l G K a1 x3 x4 h _ _ hv) C_Rules_91 rfl (Nat.le_of_ble_eq_true rfl) ⟨Nat.le_of_ble_eq_true rfl, Nat.le_of_ble_eq_true rfl, Nat.zero_le _, Nat.zero_le _⟩ rfl d_Rules_comeWord_147) (fun H locs hI => ?_)
      obtain ⟨rfl, rfl⟩ := zs2 hm
      exact z_iret X hI d_Rules_comeWord_150
    · replace hm := zif_f hs95_1 hm
      by_cases hs95_2 : v92 = (nI 3)
      · replace hm := zif_t hs95_2 hm
        refine lv_tableIn (off := 105) (tgt := 200) hx hb d_Rules_comeWord_95 (by rw [hs95_2]; decide) (by rw [hs95_2]; decide) (by rw [hs95_2]; rfl) (by decide) ?_
        refine lv_iconst (v := (nI 1)) hx hb d_Rules_comeWord_200 (by decide) ?_
        obtain ⟨rfl, rfl⟩ := zs2 hm
        exact z_iret X hI d_Rules_comeWord_201
      · replace hm := zif_f hs95_2 hm
        by_cases hs95_3 : v92 = (nI 4)
        · replace hm := zif_t hs95_3 hm
          refine lv_tableIn (off := 56) (tgt := 151) hx hb d_Rules_comeWord_95 (by rw [hs95_3]; decide) (by rw [hs95_3]; decide) (by rw [hs95_3]; rfl) (by decide) ?_
          refine lv_aload_n hx hb d_Rules_comeWord_151 rfl (lv_at hl 1 rfl) ?_
          refine lv_bipush (v := (nI 93)) hx hb d_Rules_comeWord_152 (by decide) ?_
          refine lv_iload hx hb d_Rules_comeWord_154 (lv_at hl 3 rfl) ?_
          refine lv_iadd hx hb d_Rules_comeWord_156 ?_
          refine lv_dup2_11 hx hb d_Rules_comeWord_157 rfl rfl ?_
          obtain ⟨v158, hv, hm⟩ := zbd hm
          refine z_iald X hI hv d_Rules_comeWord_158 ?_
          refine lv_iconst (v := (nI 1)) hx hb d_Rules_comeWord_159 (by decide) ?_
          refine lv_isub hx hb d_Rules_comeWord_160 ?_
          obtain ⟨h161, hv, hm⟩ := zbd hm
          refine z_iast X hI hv d_Rules_comeWord_161 (fun H locs hI => ?_)
          refine lv_aload_n hx hb d_Rules_comeWord_162 rfl (lv_at hl 1 rfl) ?_
          refine lv_bipush (v := (nI 99)) hx hb d_Rules_comeWord_163 (by decide) ?_
          refine lv_iload hx hb d_Rules_comeWord_165 (lv_at hl 3 rfl) ?_
          refine lv_iadd hx hb d_Rules_comeWord_167 ?_
          refine lv_aload_n hx hb d_Rules_comeWord_168 rfl (lv_at hl 0 rfl) ?_
          obtain ⟨v169, hv, hm⟩ := zbd hm
          refine z_getI X hI F_Rules_23 hv d_Rules_comeWord_169 ?_
          refine lv_bipush (v := (nI 7)) hx hb d_Rules_comeWord_172 (by decide) ?_
          refine lv_icmp_ne (tgt := 181) hx hb d_Rules_comeWord_174 (by decide) (fun hc174 => ?_) (fun hc174 => ?_)
          · replace hm := zif_f hc174 hm
            refine lv_iconst (v := (nI 1)) hx hb d_Rules_comeWord_181 (by decide) ?_
            obtain ⟨h182, hv, hm⟩ := zbd hm
            refine z_iast X hI hv d_Rules_comeWord_182 (fun H locs hI => ?_)
            refine lv_goto (tgt := 200) hx hb d_Rules_comeWord_183 (by decide) ?_
            refine lv_iconst (v := (nI 1)) hx hb d_Rules_comeWord_200 (by decide) ?_
            obtain ⟨rfl, rfl⟩ := zs2 hm
            exact z_iret X hI d_Rules_comeWord_201
          · replace hm := zif_t hc174 hm
            refine lv_iconst (v := (nI 0)) hx hb d_Rules_comeWord_177 (by decide) ?_
            refine lv_goto (tgt := 182) hx hb d_Rules_comeWord_178 (by decide) ?_
            obtain ⟨h182, hv, hm⟩ := zbd hm
            refine z_iast X hI hv d_Rules_comeWord_182 (fun H locs hI => ?_)
            refine lv_goto (tgt := 200) hx hb d_Rules_comeWord_183 (by decide) ?_
            refine lv_iconst (v := (nI 1)) hx hb d_Rules_comeWord_200 (by decide) ?_
            obtain ⟨rfl, rfl⟩ := zs2 hm
            exact z_iret X hI d_Rules_comeWord_201
        · replace hm := zif_f hs95_3 hm
          by_cases hs95_4 : v92 = (nI 5)
          · replace hm := zif_t hs95_4 hm
            refine lv_tableIn (off := 91) (tgt := 186) hx hb d_Rules_comeWord_95 (by rw [hs95_4]; decide) (by rw [hs95_4]; decide) (by rw [hs95_4]; rfl) (by decide) ?_
            refine lv_aload_n hx hb d_Rules_comeWord_186 rfl (lv_at hl 1 rfl) ?_
            refine lv_bipush (v := (nI 111)) hx hb d_Rules_comeWord_187 (by decide) ?_
            refine lv_iload hx hb d_Rules_comeWord_189 (lv_at hl 3 rfl) ?_
            refine lv_iadd hx hb d_Rules_comeWord_191 ?_
            refine lv_dup2_11 hx hb d_Rules_comeWord_192 rfl rfl ?_
            obtain ⟨v193, hv, hm⟩ := zbd hm
            refine z_iald X hI hv d_Rules_comeWord_193 ?_
            refine lv_iconst (v := (nI 1)) hx hb d_Rules_comeWord_194 (by decide) ?_
            refine lv_iadd hx hb d_Rules_comeWord_195 ?_
            obtain ⟨h196, hv, hm⟩ := zbd hm
            refine z_iast X hI hv d_Rules_comeWord_196 (fun H locs hI => ?_)
            refine lv_goto (tgt := 200) hx hb d_Rules_comeWord_197 (by decide) ?_
            refine lv_iconst (v := (nI 1)) hx hb d_Rules_comeWord_200 (by decide) ?_
            obtain ⟨rfl, rfl⟩ := zs2 hm
            exact z_iret X hI d_Rules_comeWord_201
          · replace hm := zif_f hs95_4 hm
            have he0 : (v92).toInt ≠ 1 := fun q => hs95_0 (Int32.toInt_inj.mp (q.trans (by decide)))
            have he1 : (v92).toInt ≠ 2 := fun q => hs95_1 (Int32.toInt_inj.mp (q.trans (by decide)))
            have he2 : (v92).toInt ≠ 3 := fun q => hs95_2 (Int32.toInt_inj.mp (q.trans (by decide)))
            have he3 : (v92).toInt ≠ 4 := fun q => hs95_3 (Int32.toInt_inj.mp (q.trans (by decide)))
            have he4 : (v92).toInt ≠ 5 := fun q => hs95_4 (Int32.toInt_inj.mp (q.trans (by decide)))
            refine lv_tableOut (tgt := 200) hx hb d_Rules_comeWord_95 (by omega) (by decide) ?_
            refine lv_iconst (v := (nI 1)) hx hb d_Rules_comeWord_200 (by decide) ?_
            obtain ⟨rfl, rfl⟩ := zs2 hm
            exact z_iret X hI d_Rules_comeWord_201
set_option maxHeartbeats 4000000 in
set_option maxRecDepth 100000 in
theorem r_Rules_comeWord_0 {p : Program} {l : Launch} {e : Env} {s : State} {m : MethodId} {args : Array Value} {below : List Frame} {meth : Method} {c : Code} {G : zG} {K : Nat} (X : zX p s m args meth c "AllHome$Rules" prog_5_method_10_code 6 (some .int) G (zA G K)) {r : Int32} {h' : zH} (a0 : Nat) (a1 : Nat) (x2 : Int32) (h : zH) (hm : m_Rules_comeWord a0 a1 x2 h = some (r, h')) {H : Heap} {locs : List Loc} {ls : Array Slot} (hI : zI G K s (zA G K) H locs h) (hl : lv_has ls 6 [(0, .ref (G.1 a0)), (1, .ref (G.1 a1)), (2, .int x2)]) : W p l e (zR 2) s m args below meth c H locs 0 0 (MQ below (zQi G K r h') args s 0 0 (zA G K)) (F0 m 0 ls []) := by
  obtain ⟨hx, hb, hml, hown, hts, hr, hlocks, hK, hST, hNs⟩ := id X
  unfold m_Rules_comeWord at hm
  refine lv_aload_n hx hb d_Rules_comeWord_0 rfl (lv_at hl 1 rfl) ?_
  refine lv_bipush (v := (nI 18)) hx hb d_Rules_comeWord_1 (by decide) ?_
  refine lv_iload_n hx hb d_Rules_comeWord_3 rfl (lv_at hl 2 rfl) ?_
  obtain ⟨v4, hv, hm⟩ := zbd hm
  refine z_ci hI (z_runS (As := [.ref (G.1 a1), .int (nI 18), .int x2]) (rest := []) X hI hl.1 (c_Rules_isOnTheWay l G K a1 (nI 18) x2 h _ hv) C_Rules_84 rfl (Nat.le_of_ble_eq_true rfl) ⟨Nat.le_of_ble_eq_true rfl, Nat.le_of_ble_eq_true rfl, Nat.zero_le _, Nat.zero_le _⟩ rfl d_Rules_comeWord_4) (fun H locs hI => ?_)
  refine lv_if_ne (tgt := 13) hx hb d_Rules_comeWord_7 (by decide) (fun hc7 => ?_) (fun hc7 => ?_)
  · replace hm := zif_f hc7 hm
    refine lv_aload_n hx hb d_Rules_comeWord_13 rfl (lv_at hl 1 rfl) ?_
    refine lv_bipush (v := (nI 19)) hx hb d_Rules_comeWord_14 (by decide) ?_
    refine lv_iload_n hx hb d_Rules_comeWord_16 rfl (lv_at hl 2 rfl) ?_
    refine lv_iadd hx hb d_Rules_comeWord_17 ?_
    obtain ⟨v18, hv, hm⟩ := zbd hm
    refine z_iald X hI hv d_Rules_comeWord_18 ?_
    refine lv_istore_n (lv' := [(3, .int v18), (0, .ref (G.1 a0)), (1, .ref (G.1 a1)), (2, .int x2)]) hx hb d_Rules_comeWord_19 rfl hl (by decide) rfl (fun ls hl => ?_)
    refine lv_aload_n hx hb d_Rules_comeWord_20 rfl (lv_at hl 2 rfl) ?_
    refine lv_bipush (v := (nI 27)) hx hb d_Rules_comeWord_21 (by decide) ?_
    refine lv_iload_n hx hb d_Rules_comeWord_23 rfl (lv_at hl 3 rfl) ?_
    refine lv_iadd hx hb d_Rules_comeWord_24 ?_
    obtain ⟨v25, hv, hm⟩ := zbd hm
    refine z_iald X hI hv d_Rules_comeWord_25 ?_
    refine lv_istore (lv' := [(4, .int v25), (3, .int v18), (0, .ref (G.1 a0)), (1, .ref (G.1 a1)), (2, .int x2)]) hx hb d_Rules_comeWord_26 hl (by decide) rfl (fun ls hl => ?_)
    refine lv_aload_n hx hb d_Rules_comeWord_28 rfl (lv_at hl 3 rfl) ?_
    refine lv_bipush (v := (nI 35)) hx hb d_Rules_comeWord_29 (by decide) ?_
    refine lv_iload_n hx hb d_Rules_comeWord_31 rfl (lv_at hl 4 rfl) ?_
    refine lv_iadd hx hb d_Rules_comeWord_32 ?_
    obtain ⟨v33, hv, hm⟩ := zbd hm
    refine z_iald X hI hv d_Rules_comeWord_33 ?_
    refine lv_istore (lv' := [(5, .int v33), (4, .int v25), (3, .int v18), (0, .ref (G.1 a0)), (1, .ref (G.1 a1)), (2, .int x2)]) hx hb d_Rules_comeWord_34 hl (by decide) rfl (fun ls hl => ?_)
    refine lv_aload_n hx hb d_Rules_comeWord_36 rfl (lv_at hl 3 rfl) ?_
    obtain ⟨v37, hv, hm⟩ := zbd hm
    refine z_getR X hI F_Rules_9 hv d_Rules_comeWord_37 ?_
    refine lv_iload hx hb d_Rules_comeWord_40 (lv_at hl 1 rfl) ?_
    obtain ⟨v42, hv, hm⟩ := zbd hm
    obtain ⟨hq, hv⟩ := zcv_at hv
    refine z_ci hI (z_runV (As := [.int v25]) (rest := []) X hI hl.1 (c_Huts_has l G K v37 v25 h _ hv) C_Rules_60 rfl hq (Nat.le_of_ble_eq_true rfl) ⟨Nat.le_of_ble_eq_true rfl, Nat.le_of_ble_eq_true rfl, Nat.zero_le _, Nat.zero_le _⟩ rfl d_Rules_comeWord_42) (fun H locs hI => ?_)
    refine lv_if_ne (tgt := 51) hx hb d_Rules_comeWord_45 (by decide) (fun hc45 => ?_) (fun hc45 => ?_)
    · replace hm := zif_f hc45 hm
      refine lv_aload_n hx hb d_Rules_comeWord_51 rfl (lv_at hl 4 rfl) ?_
      refine lv_iload_n hx hb d_Rules_comeWord_52 rfl (lv_at hl 5 rfl) ?_
      obtain ⟨h53, hv, hm⟩ := zbd hm
      refine z_cv hI (z_runS (As := [.ref (G.1 a1), .int x2]) (rest := []) X hI hl.1 (c_Rules_takeAwayWord l G K a1 x2 h _ hv) C_Rules_88 rfl (Nat.le_of_ble_eq_true rfl) ⟨Nat.le_of_ble_eq_true rfl, Nat.le_of_ble_eq_true rfl, Nat.zero_le _, Nat.zero_le _⟩ rfl d_Rules_comeWord_53) (fun H locs hI => ?_)
      refine lv_aload_n hx hb d_Rules_comeWord_56 rfl (lv_at hl 4 rfl) ?_
      refine lv_iconst (v := (nI 0)) hx hb d_Rules_comeWord_57 (by decide) ?_
      refine lv_iload hx hb d_Rules_comeWord_58 (lv_at hl 1 rfl) ?_
      refine lv_iadd hx hb d_Rules_comeWord_60 ?_
      obtain ⟨v61, hv, hm⟩ := zbd hm
      refine z_iald X hI hv d_Rules_comeWord_61 ?_
      refine lv_if_ne (tgt := 91) hx hb d_Rules_comeWord_62 (by decide) (fun hc62 => ?_) (fun hc62 => ?_)
      · replace hm := zif_f hc62 hm
        exact r_Rules_comeWord_91 X a0 a1 v18 v25 v33 h53 hm hI (lv_sub hl [3, 4, 2, 1, 0] rfl)
      · replace hm := zif_t hc62 hm
        refine lv_aload_n hx hb d_Rules_comeWord_65 rfl (lv_at hl 4 rfl) ?_
        refine lv_iconst (v := (nI 0)) hx hb d_Rules_comeWord_66 (by decide) ?_
        refine lv_iload hx hb d_Rules_comeWord_67 (lv_at hl 1 rfl) ?_
        refine lv_iadd hx hb d_Rules_comeWord_69 ?_
        refine lv_iconst (v := (nI 1)) hx hb d_Rules_comeWord_70 (by decide) ?_
        obtain ⟨h71, hv, hm⟩ := zbd hm
        refine z_iast X hI hv d_Rules_comeWord_71 (fun H locs hI => ?_)
        refine lv_aload_n hx hb d_Rules_comeWord_72 rfl (lv_at hl 4 rfl) ?_
        refine lv_bipush (v := (nI 6)) hx hb d_Rules_comeWord_73 (by decide) ?_
        refine lv_iload hx hb d_Rules_comeWord_75 (lv_at hl 1 rfl) ?_
        refine lv_iadd hx hb d_Rules_comeWord_77 ?_
        refine lv_dup2_11 hx hb d_Rules_comeWord_78 rfl rfl ?_
        obtain ⟨v79, hv, hm⟩ := zbd hm
        refine z_iald X hI hv d_Rules_comeWord_79 ?_
        refine lv_iconst (v := (nI 1)) hx hb d_Rules_comeWord_80 (by decide) ?_
        refine lv_iadd hx hb d_Rules_comeWord_81 ?_
        obtain ⟨h82, hv, hm⟩ := zbd hm
        refine z_iast X hI hv d_Rules_comeWord_82 (fun H locs hI => ?_)
        refine lv_aload_n hx hb d_Rules_comeWord_83 rfl (lv_at hl 4 rfl) ?_
        refine lv_bipush (v := (nI 12)) hx hb d_Rules_comeWord_84 (by decide) ?_
        refine lv_iload hx hb d_Rules_comeWord_86 (lv_at hl 1 rfl) ?_
        refine lv_iadd hx hb d_Rules_comeWord_88 ?_
        refine lv_iconst (v := (nI 0)) hx hb d_Rules_comeWord_89 (by decide) ?_
        obtain ⟨h90, hv, hm⟩ := zbd hm
        refine z_iast X hI hv d_Rules_comeWord_90 (fun H locs hI => ?_)
        exact r_Rules_comeWord_91 X a0 a1 v18 v25 v33 h90 hm hI (lv_sub hl [3, 4, 2, 1, 0] rfl)
    · replace hm := zif_t hc45 hm
      refine lv_bipush (v := (-5 : Int32)) hx hb d_Rules_comeWord_48 (by decide) ?_
      obtain ⟨rfl, rfl⟩ := zs2 hm
      exact z_iret X hI d_Rules_comeWord_50
  · replace hm := zif_t hc7 hm
    refine lv_bipush (v := (-5 : Int32)) hx hb d_Rules_comeWord_10 (by decide) ?_
    obtain ⟨rfl, rfl⟩ := zs2 hm
    exact z_iret X hI d_Rules_comeWord_12
set_option maxHeartbeats 4000000 in
set_option maxRecDepth 100000 in
theorem c_Rules_comeWord (l : Launch) (G : zG) (K : Nat) (a0 : Nat) (a1 : Nat) (x2 : Int32) (h : zH) (r : Int32) (h' : zH) (hm : m_Rules_comeWord a0 a1 x2 h = some (r, h')) : zMi l G K y_Rules_comeWord prog_5_method_10_code 6 2 [.ref (G.1 a0), .ref (G.1 a1), .int x2] h r h' := zMet (by decide +kernel) (Nat.le_of_ble_eq_true rfl) (fun p e s m below meth c ls X hI hl => r_Rules_comeWord_0 X a0 a1 x2 h hm hI hl)
-- walk of AllHome$Rules.takeStone
theorem d_Rules_takeStone_0 : decode prog_5_method_16_code 0 = .ok (.iload_n 1, 1) := by decide +kernel
theorem d_Rules_takeStone_1 : decode prog_5_method_16_code 1 = .ok (.ifCond .ne 30, 3) := by decide +kernel
theorem d_Rules_takeStone_4 : decode prog_5_method_16_code 4 = .ok (.iload_n 3, 1) := by decide +kernel
theorem d_Rules_takeStone_5 : decode prog_5_method_16_code 5 = .ok (.ifCond .ne 24, 3) := by decide +kernel
theorem d_Rules_takeStone_8 : decode prog_5_method_16_code 8 = .ok (.aload_n 0, 1) := by decide +kernel
theorem d_Rules_takeStone_9 : decode prog_5_method_16_code 9 = .ok (.bipush 99, 2) := by decide +kernel
theorem d_Rules_takeStone_11 : decode prog_5_method_16_code 11 = .ok (.iaload, 1) := by decide +kernel
theorem d_Rules_takeStone_12 : decode prog_5_method_16_code 12 = .ok (.ifCond .ne 17, 3) := by decide +kernel
theorem d_Rules_takeStone_15 : decode prog_5_method_16_code 15 = .ok (.iload_n 2, 1) := by decide +kernel
theorem d_Rules_takeStone_16 : decode prog_5_method_16_code 16 = .ok (.aload_n 0, 1) := by decide +kernel
theorem d_Rules_takeStone_17 : decode prog_5_method_16_code 17 = .ok (.bipush 93, 2) := by decide +kernel
theorem d_Rules_takeStone_19 : decode prog_5_method_16_code 19 = .ok (.iaload, 1) := by decide +kernel
theorem d_Rules_takeStone_20 : decode prog_5_method_16_code 20 = .ok (.iadd, 1) := by decide +kernel
theorem d_Rules_takeStone_21 : decode prog_5_method_16_code 21 = .ok (.ifCond .ne 8, 3) := by decide +kernel
theorem d_Rules_takeStone_24 : decode prog_5_method_16_code 24 = .ok (.aload_n 0, 1) := by decide +kernel
theorem d_Rules_takeStone_25 : decode prog_5_method_16_code 25 = .ok (.bipush 120, 2) := by decide +kernel
theorem d_Rules_takeStone_27 : decode prog_5_method_16_code 27 = .ok (.iconst 1, 1) := by decide +kernel
theorem d_Rules_takeStone_28 : decode prog_5_method_16_code 28 = .ok (.iastore, 1) := by decide +kernel
theorem d_Rules_takeStone_29 : decode prog_5_method_16_code 29 = .ok (.iconst 1, 1) := by decide +kernel
theorem d_Rules_takeStone_30 : decode prog_5_method_16_code 30 = .ok (.ireturn, 1) := by decide +kernel
theorem d_Rules_takeStone_31 : decode prog_5_method_16_code 31 = .ok (.iload_n 3, 1) := by decide +kernel
theorem d_Rules_takeStone_32 : decode prog_5_method_16_code 32 = .ok (.iconst 1, 1) := by decide +kernel
theorem d_Rules_takeStone_33 : decode prog_5_method_16_code 33 = .ok (.if_icmp .eq 13, 3) := by decide +kernel
theorem d_Rules_takeStone_36 : decode prog_5_method_16_code 36 = .ok (.aload_n 0, 1) := by decide +kernel
theorem d_Rules_takeStone_37 : decode prog_5_method_16_code 37 = .ok (.bipush 99, 2) := by decide +kernel
theorem d_Rules_takeStone_39 : decode prog_5_method_16_code 39 = .ok (.iload_n 1, 1) := by decide +kernel
theorem d_Rules_takeStone_40 : decode prog_5_method_16_code 40 = .ok (.iadd, 1) := by decide +kernel
theorem d_Rules_takeStone_41 : decode prog_5_method_16_code 41 = .ok (.iaload, 1) := by decide +kernel
theorem d_Rules_takeStone_42 : decode prog_5_method_16_code 42 = .ok (.iconst 1, 1) := by decide +kernel
theorem d_Rules_takeStone_43 : decode prog_5_method_16_code 43 = .ok (.if_icmp .ne 7, 3) := by decide +kernel
theorem d_Rules_takeStone_46 : decode prog_5_method_16_code 46 = .ok (.iconst 1, 1) := by decide +kernel
theorem d_Rules_takeStone_47 : decode prog_5_method_16_code 47 = .ok (.goto 4, 3) := by decide +kernel
theorem d_Rules_takeStone_50 : decode prog_5_method_16_code 50 = .ok (.iconst 0, 1) := by decide +kernel
theorem d_Rules_takeStone_51 : decode prog_5_method_16_code 51 = .ok (.istore 4, 2) := by decide +kernel
theorem d_Rules_takeStone_53 : decode prog_5_method_16_code 53 = .ok (.aload_n 0, 1) := by decide +kernel
theorem d_Rules_takeStone_54 : decode prog_5_method_16_code 54 = .ok (.bipush 99, 2) := by decide +kernel
theorem d_Rules_takeStone_56 : decode prog_5_method_16_code 56 = .ok (.iload_n 1, 1) := by decide +kernel
theorem d_Rules_takeStone_57 : decode prog_5_method_16_code 57 = .ok (.iadd, 1) := by decide +kernel
theorem d_Rules_takeStone_58 : decode prog_5_method_16_code 58 = .ok (.iconst 0, 1) := by decide +kernel
theorem d_Rules_takeStone_59 : decode prog_5_method_16_code 59 = .ok (.iastore, 1) := by decide +kernel
theorem d_Rules_takeStone_60 : decode prog_5_method_16_code 60 = .ok (.aload_n 0, 1) := by decide +kernel
theorem d_Rules_takeStone_61 : decode prog_5_method_16_code 61 = .ok (.iload_n 1, 1) := by decide +kernel
theorem d_Rules_takeStone_62 : decode prog_5_method_16_code 62 = .ok (.iconst 1, 1) := by decide +kernel
theorem d_Rules_takeStone_63 : decode prog_5_method_16_code 63 = .ok (.isub, 1) := by decide +kernel
theorem d_Rules_takeStone_64 : decode prog_5_method_16_code 64 = .ok (.iload_n 2, 1) := by decide +kernel
theorem d_Rules_takeStone_65 : decode prog_5_method_16_code 65 = .ok (.aload_n 0, 1) := by decide +kernel
theorem d_Rules_takeStone_66 : decode prog_5_method_16_code 66 = .ok (.bipush 93, 2) := by decide +kernel
theorem d_Rules_takeStone_68 : decode prog_5_method_16_code 68 = .ok (.iload_n 1, 1) := by decide +kernel
theorem d_Rules_takeStone_69 : decode prog_5_method_16_code 69 = .ok (.iadd, 1) := by decide +kernel
theorem d_Rules_takeStone_70 : decode prog_5_method_16_code 70 = .ok (.iaload, 1) := by decide +kernel
theorem d_Rules_takeStone_71 : decode prog_5_method_16_code 71 = .ok (.iadd, 1) := by decide +kernel
theorem d_Rules_takeStone_72 : decode prog_5_method_16_code 72 = .ok (.iload 4, 2) := by decide +kernel
theorem d_Rules_takeStone_74 : decode prog_5_method_16_code 74 = .ok (.invokestatic 77, 3) := by decide +kernel
theorem d_Rules_takeStone_77 : decode prog_5_method_16_code 77 = .ok (.ireturn, 1) := by decide +kernel
set_option maxHeartbeats 4000000 in
set_option maxRecDepth 100000 in
theorem r_Rules_takeStone_51 {p : Program} {l : Launch} {e : Env} {s : State} {m : MethodId} {args : Array Value} {below : List Frame} {meth : Method} {c : Code} {G : zG} {K : Nat} (X : zX p s m args meth c "AllHome$Rules" prog_5_method_16_code 5 (some .int) G (zA G K)) {r : Int32} {h' : zH} (a0 : Nat) (x1 : Int32) (x2 : Int32) (y0 : Int32) (h : zH) (hm : g_Rules_takeStone_51 a0 x1 x2 y0 h = some (r, h')) {H : Heap} {locs : List Loc} {ls : Array Slot} (hI : zI G K s (zA G K) H locs h) (hl : lv_has ls 5 [(0, .ref (G.1 a0)), (1, .int x1), (2, .int x2)]) : W p l e (zR 1) s m args below meth c H locs 0 0 (MQ below (zQi G K r h') args s 0 0 (zA G K)) (F0 m 51 ls [.int y0]) := by
  obtain ⟨hx, hb, hml, hown, hts, hr, hlocks, hK, hST, hNs⟩ := id X
  unfold g_Rules_takeStone_51 at hm
  refine lv_istore (lv' := [(4, .int y0), (0, .ref (G.1 a0)), (1, .int x1), (2, .int x2)]) hx hb d_Rules_takeStone_51 hl (by decide) rfl (fun ls hl => ?_)
  refine lv_aload_n hx hb d_Rules_takeStone_53 rfl (lv_at hl 1 rfl) ?_
  refine lv_bipush (v := (nI 99)) hx hb d_Rules_takeStone_54 (by decide) ?_
  refine lv_iload_n hx hb d_Rules_takeStone_56 rfl (lv_at hl 2 rfl) ?_
  refine lv_iadd hx hb d_Rules_takeStone_57 ?_
  refine lv_iconst (v := (nI 0)) hx hb d_Rules_takeStone_58 (by decide) ?_
  obtain ⟨h59, hv, hm⟩ := zbd hm
  refine z_iast X hI hv d_Rules_takeStone_59 (fun H locs hI => ?_)
  refine lv_aload_n hx hb d_Rules_takeStone_60 rfl (lv_at hl 1 rfl) ?_
  refine lv_iload_n hx hb d_Rules_takeStone_61 rfl (lv_at hl 2 rfl) ?_
  refine lv_iconst (v := (nI 1)) hx hb d_Rules_takeStone_62 (by decide) ?_
  refine lv_isub hx hb d_Rules_takeStone_63 ?_
  refine lv_iload_n hx hb d_Rules_takeStone_64 rfl (lv_at hl 3 rfl) ?_
  refine lv_aload_n hx hb d_Rules_takeStone_65 rfl (lv_at hl 1 rfl) ?_
  refine lv_bipush (v := (nI 93)) hx hb d_Rules_takeStone_66 (by decide) ?_
  refine lv_iload_n hx hb d_Rules_takeStone_68 rfl (lv_at hl 2 rfl) ?_
  refine lv_iadd hx hb d_Rules_takeStone_69 ?_
  obtain ⟨v70, hv, hm⟩ := zbd hm
  refine z_iald X hI hv d_Rules_takeStone_70 ?_
  refine lv_iadd hx hb d_Rules_takeStone_71 ?_
  refine lv_iload hx hb d_Rules_takeStone_72 (lv_at hl 0 rfl) ?_
  obtain ⟨v74, h74, hv, hm⟩ := zb2_at hm
  refine z_ci hI (z_runS (As := [.ref (G.1 a0), .int (x1 - (nI 1)), .int (x2 + v70), .int y0]) (rest := []) X hI hl.1 (c_Rules_sendNote l G K a0 (x1 - (nI 1)) (x2 + v70) y0 h59 _ _ hv) C_Rules_77 rfl (Nat.le_of_ble_eq_true rfl) ⟨Nat.le_of_ble_eq_true rfl, Nat.le_of_ble_eq_true rfl, Nat.zero_le _, Nat.zero_le _⟩ rfl d_Rules_takeStone_74) (fun H locs hI => ?_)
  obtain ⟨rfl, rfl⟩ := zs2 hm
  exact z_iret X hI d_Rules_takeStone_77
set_option maxHeartbeats 4000000 in
set_option maxRecDepth 100000 in
theorem r_Rules_takeStone_0 {p : Program} {l : Launch} {e : Env} {s : State} {m : MethodId} {args : Array Value} {below : List Frame} {meth : Method} {c : Code} {G : zG} {K : Nat} (X : zX p s m args meth c "AllHome$Rules" prog_5_method_16_code 5 (some .int) G (zA G K)) {r : Int32} {h' : zH} (a0 : Nat) (x1 : Int32) (x2 : Int32) (x3 : Int32) (h : zH) (hm : m_Rules_takeStone a0 x1 x2 x3 h = some (r, h')) {H : Heap} {locs : List Loc} {ls : Array Slot} (hI : zI G K s (zA G K) H locs h) (hl : lv_has ls 5 [(0, .ref (G.1 a0)), (1, .int x1), (2, .int x2), (3, .int x3)]) : W p l e (zR 1) s m args below meth c H locs 0 0 (MQ below (zQi G K r h') args s 0 0 (zA G K)) (F0 m 0 ls []) := by
  obtain ⟨hx, hb, hml, hown, hts, hr, hlocks, hK, hST, hNs⟩ := id X
  unfold m_Rules_takeStone at hm
  refine lv_iload_n hx hb d_Rules_takeStone_0 rfl (lv_at hl 1 rfl) ?_
  refine lv_if_ne (tgt := 31) hx hb d_Rules_takeStone_1 (by decide) (fun hc1 => ?_) (fun hc1 => ?_)
  · replace hm := zif_f hc1 hm
    refine lv_iload_n hx hb d_Rules_takeStone_31 rfl (lv_at hl 3 rfl) ?_
    refine lv_iconst (v := (nI 1)) hx hb d_Rules_takeStone_32 (by decide) ?_
    refine lv_icmp_eq (tgt := 46) hx hb d_Rules_takeStone_33 (by decide) (fun hc33 => ?_) (fun hc33 => ?_)
    · replace hm := zif_t hc33 hm
      refine lv_iconst (v := (nI 1)) hx hb d_Rules_takeStone_46 (by decide) ?_
      refine lv_goto (tgt := 51) hx hb d_Rules_takeStone_47 (by decide) ?_
      exact r_Rules_takeStone_51 X a0 x1 x2 (nI 1) h hm hI (lv_sub hl [0, 1, 2] rfl)
    · replace hm := zif_f hc33 hm
      refine lv_aload_n hx hb d_Rules_takeStone_36 rfl (lv_at hl 0 rfl) ?_
      refine lv_bipush (v := (nI 99)) hx hb d_Rules_takeStone_37 (by decide) ?_
      refine lv_iload_n hx hb d_Rules_takeStone_39 rfl (lv_at hl 1 rfl) ?_
      refine lv_iadd hx hb d_Rules_takeStone_40 ?_
      obtain ⟨v41, hv, hm⟩ := zbd hm
      refine z_iald X hI hv d_Rules_takeStone_41 ?_
      refine lv_iconst (v := (nI 1)) hx hb d_Rules_takeStone_42 (by decide) ?_
      refine lv_icmp_ne (tgt := 50) hx hb d_Rules_takeStone_43 (by decide) (fun hc43 => ?_) (fun hc43 => ?_)
      · replace hm := zif_f hc43 hm
        refine lv_iconst (v := (nI 0)) hx hb d_Rules_takeStone_50 (by decide) ?_
        exact r_Rules_takeStone_51 X a0 x1 x2 (nI 0) h hm hI (lv_sub hl [0, 1, 2] rfl)
      · replace hm := zif_t hc43 hm
        refine lv_iconst (v := (nI 1)) hx hb d_Rules_takeStone_46 (by decide) ?_
        refine lv_goto (tgt := 51) hx hb d_Rules_takeStone_47 (by decide) ?_
        exact r_Rules_takeStone_51 X a0 x1 x2 (nI 1) h hm hI (lv_sub hl [0, 1, 2] rfl)
  · replace hm := zif_t hc1 hm
    refine lv_iload_n hx hb d_Rules_takeStone_4 rfl (lv_at hl 3 rfl) ?_
    refine lv_if_ne (tgt := 29) hx hb d_Rules_takeStone_5 (by decide) (fun hc5 => ?_) (fun hc5 => ?_)
    · replace hm := zif_f hc5 hm
      refine lv_iconst (v := (nI 1)) hx hb d_Rules_takeStone_29 (by decide) ?_
      obtain ⟨rfl, rfl⟩ := zs2 hm
      exact z_iret X hI d_Rules_takeStone_30
    · replace hm := zif_t hc5 hm
      refine lv_aload_n hx hb d_Rules_takeStone_8 rfl (lv_at hl 0 rfl) ?_
      refine lv_bipush (v := (nI 99)) hx hb d_Rules_takeStone_9 (by decide) ?_
      obtain ⟨v11, hv, hm⟩ := zbd hm
      refine z_iald X hI hv d_Rules_takeStone_11 ?_
      refine lv_if_ne (tgt := 29) hx hb d_Rules_takeStone_12 (by decide) (fun hc12 => ?_) (fun hc12 => ?_)
      · replace hm := zif_f hc12 hm
        refine lv_iconst (v := (nI 1)) hx hb d_Rules_takeStone_29 (by decide) ?_
        obtain ⟨rfl, rfl⟩ := zs2 hm
        exact z_iret X hI d_Rules_takeStone_30
      · replace hm := zif_t hc12 hm
        refine lv_iload_n hx hb d_Rules_takeStone_15 rfl (lv_at hl 2 rfl) ?_
        refine lv_aload_n hx hb d_Rules_takeStone_16 rfl (lv_at hl 0 rfl) ?_
        refine lv_bipush (v := (nI 93)) hx hb d_Rules_takeStone_17 (by decide) ?_
        obtain ⟨v19, hv, hm⟩ := zbd hm
        refine z_iald X hI hv d_Rules_takeStone_19 ?_
        refine lv_iadd hx hb d_Rules_takeStone_20 ?_
        refine lv_if_ne (tgt := 29) hx hb d_Rules_takeStone_21 (by decide) (fun hc21 => ?_) (fun hc21 => ?_)
        · replace hm := zif_f hc21 hm
          refine lv_iconst (v := (nI 1)) hx hb d_Rules_takeStone_29 (by decide) ?_
          obtain ⟨rfl, rfl⟩ := zs2 hm
          exact z_iret X hI d_Rules_takeStone_30
        · replace hm := zif_t hc21 hm
          refine lv_aload_n hx hb d_Rules_takeStone_24 rfl (lv_at hl 0 rfl) ?_
          refine lv_bipush (v := (nI 120)) hx hb d_Rules_takeStone_25 (by decide) ?_
          refine lv_iconst (v := (nI 1)) hx hb d_Rules_takeStone_27 (by decide) ?_
          obtain ⟨h28, hv, hm⟩ := zbd hm
          refine z_iast X hI hv d_Rules_takeStone_28 (fun H locs hI => ?_)
          refine lv_iconst (v := (nI 1)) hx hb d_Rules_takeStone_29 (by decide) ?_
          obtain ⟨rfl, rfl⟩ := zs2 hm
          exact z_iret X hI d_Rules_takeStone_30
set_option maxHeartbeats 4000000 in
set_option maxRecDepth 100000 in
theorem c_Rules_takeStone (l : Launch) (G : zG) (K : Nat) (a0 : Nat) (x1 : Int32) (x2 : Int32) (x3 : Int32) (h : zH) (r : Int32) (h' : zH) (hm : m_Rules_takeStone a0 x1 x2 x3 h = some (r, h')) : zMi l G K y_Rules_takeStone prog_5_method_16_code 5 1 [.ref (G.1 a0), .int x1, .int x2, .int x3] h r h' := zMet (by decide +kernel) (Nat.le_of_ble_eq_true rfl) (fun p e s m below meth c ls X hI hl => r_Rules_takeStone_0 X a0 x1 x2 x3 h hm hI hl)
-- walk of AllHome$Rules.takeSums
theorem d_Rules_takeSums_0 : decode prog_5_method_17_code 0 = .ok (.iload_n 2, 1) := by decide +kernel
theorem d_Rules_takeSums_1 : decode prog_5_method_17_code 1 = .ok (.ifCond .eq 49, 3) := by decide +kernel
theorem d_Rules_takeSums_4 : decode prog_5_method_17_code 4 = .ok (.iload_n 2, 1) := by decide +kernel
theorem d_Rules_takeSums_5 : decode prog_5_method_17_code 5 = .ok (.iconst 1, 1) := by decide +kernel
theorem d_Rules_takeSums_6 : decode prog_5_method_17_code 6 = .ok (.iadd, 1) := by decide +kernel
theorem d_Rules_takeSums_7 : decode prog_5_method_17_code 7 = .ok (.aload_n 0, 1) := by decide +kernel
theorem d_Rules_takeSums_8 : decode prog_5_method_17_code 8 = .ok (.getfield 9, 3) := by decide +kernel
theorem d_Rules_takeSums_11 : decode prog_5_method_17_code 11 = .ok (.invokevirtual 104, 3) := by decide +kernel
theorem d_Rules_takeSums_14 : decode prog_5_method_17_code 14 = .ok (.if_icmp .ge 9, 3) := by decide +kernel
theorem d_Rules_takeSums_17 : decode prog_5_method_17_code 17 = .ok (.iload_n 2, 1) := by decide +kernel
theorem d_Rules_takeSums_18 : decode prog_5_method_17_code 18 = .ok (.iconst 1, 1) := by decide +kernel
theorem d_Rules_takeSums_19 : decode prog_5_method_17_code 19 = .ok (.iadd, 1) := by decide +kernel
theorem d_Rules_takeSums_20 : decode prog_5_method_17_code 20 = .ok (.goto 4, 3) := by decide +kernel
theorem d_Rules_takeSums_23 : decode prog_5_method_17_code 23 = .ok (.iconst 0, 1) := by decide +kernel
theorem d_Rules_takeSums_24 : decode prog_5_method_17_code 24 = .ok (.istore 5, 2) := by decide +kernel
theorem d_Rules_takeSums_26 : decode prog_5_method_17_code 26 = .ok (.aload_n 1, 1) := by decide +kernel
theorem d_Rules_takeSums_27 : decode prog_5_method_17_code 27 = .ok (.iload 5, 2) := by decide +kernel
theorem d_Rules_takeSums_29 : decode prog_5_method_17_code 29 = .ok (.iload_n 3, 1) := by decide +kernel
theorem d_Rules_takeSums_30 : decode prog_5_method_17_code 30 = .ok (.aload_n 1, 1) := by decide +kernel
theorem d_Rules_takeSums_31 : decode prog_5_method_17_code 31 = .ok (.bipush 105, 2) := by decide +kernel
theorem d_Rules_takeSums_33 : decode prog_5_method_17_code 33 = .ok (.iload_n 2, 1) := by decide +kernel
theorem d_Rules_takeSums_34 : decode prog_5_method_17_code 34 = .ok (.iadd, 1) := by decide +kernel
theorem d_Rules_takeSums_35 : decode prog_5_method_17_code 35 = .ok (.iaload, 1) := by decide +kernel
theorem d_Rules_takeSums_36 : decode prog_5_method_17_code 36 = .ok (.iadd, 1) := by decide +kernel
theorem d_Rules_takeSums_37 : decode prog_5_method_17_code 37 = .ok (.iload 4, 2) := by decide +kernel
theorem d_Rules_takeSums_39 : decode prog_5_method_17_code 39 = .ok (.aload_n 1, 1) := by decide +kernel
theorem d_Rules_takeSums_40 : decode prog_5_method_17_code 40 = .ok (.bipush 111, 2) := by decide +kernel
theorem d_Rules_takeSums_42 : decode prog_5_method_17_code 42 = .ok (.iload_n 2, 1) := by decide +kernel
theorem d_Rules_takeSums_43 : decode prog_5_method_17_code 43 = .ok (.iadd, 1) := by decide +kernel
theorem d_Rules_takeSums_44 : decode prog_5_method_17_code 44 = .ok (.iaload, 1) := by decide +kernel
theorem d_Rules_takeSums_45 : decode prog_5_method_17_code 45 = .ok (.iadd, 1) := by decide +kernel
theorem d_Rules_takeSums_46 : decode prog_5_method_17_code 46 = .ok (.invokestatic 77, 3) := by decide +kernel
theorem d_Rules_takeSums_49 : decode prog_5_method_17_code 49 = .ok (.ireturn, 1) := by decide +kernel
theorem d_Rules_takeSums_50 : decode prog_5_method_17_code 50 = .ok (.aload_n 1, 1) := by decide +kernel
theorem d_Rules_takeSums_51 : decode prog_5_method_17_code 51 = .ok (.bipush 117, 2) := by decide +kernel
theorem d_Rules_takeSums_53 : decode prog_5_method_17_code 53 = .ok (.iaload, 1) := by decide +kernel
theorem d_Rules_takeSums_54 : decode prog_5_method_17_code 54 = .ok (.iconst 1, 1) := by decide +kernel
theorem d_Rules_takeSums_55 : decode prog_5_method_17_code 55 = .ok (.if_icmp .ne 24, 3) := by decide +kernel
theorem d_Rules_takeSums_58 : decode prog_5_method_17_code 58 = .ok (.aload_n 1, 1) := by decide +kernel
theorem d_Rules_takeSums_59 : decode prog_5_method_17_code 59 = .ok (.bipush 118, 2) := by decide +kernel
theorem d_Rules_takeSums_61 : decode prog_5_method_17_code 61 = .ok (.iaload, 1) := by decide +kernel
theorem d_Rules_takeSums_62 : decode prog_5_method_17_code 62 = .ok (.iload_n 3, 1) := by decide +kernel
theorem d_Rules_takeSums_63 : decode prog_5_method_17_code 63 = .ok (.if_icmp .ne 16, 3) := by decide +kernel
theorem d_Rules_takeSums_66 : decode prog_5_method_17_code 66 = .ok (.aload_n 1, 1) := by decide +kernel
theorem d_Rules_takeSums_67 : decode prog_5_method_17_code 67 = .ok (.bipush 119, 2) := by decide +kernel
theorem d_Rules_takeSums_69 : decode prog_5_method_17_code 69 = .ok (.iaload, 1) := by decide +kernel
theorem d_Rules_takeSums_70 : decode prog_5_method_17_code 70 = .ok (.iload 4, 2) := by decide +kernel
theorem d_Rules_takeSums_72 : decode prog_5_method_17_code 72 = .ok (.if_icmp .ne 7, 3) := by decide +kernel
theorem d_Rules_takeSums_75 : decode prog_5_method_17_code 75 = .ok (.iconst 1, 1) := by decide +kernel
theorem d_Rules_takeSums_76 : decode prog_5_method_17_code 76 = .ok (.goto 4, 3) := by decide +kernel
theorem d_Rules_takeSums_79 : decode prog_5_method_17_code 79 = .ok (.iconst 0, 1) := by decide +kernel
theorem d_Rules_takeSums_80 : decode prog_5_method_17_code 80 = .ok (.istore 5, 2) := by decide +kernel
theorem d_Rules_takeSums_82 : decode prog_5_method_17_code 82 = .ok (.iload_n 3, 1) := by decide +kernel
theorem d_Rules_takeSums_83 : decode prog_5_method_17_code 83 = .ok (.iload 4, 2) := by decide +kernel
theorem d_Rules_takeSums_85 : decode prog_5_method_17_code 85 = .ok (.if_icmp .ne 24, 3) := by decide +kernel
theorem d_Rules_takeSums_88 : decode prog_5_method_17_code 88 = .ok (.aload_n 0, 1) := by decide +kernel
theorem d_Rules_takeSums_89 : decode prog_5_method_17_code 89 = .ok (.getfield 23, 3) := by decide +kernel
theorem d_Rules_takeSums_92 : decode prog_5_method_17_code 92 = .ok (.bipush 8, 2) := by decide +kernel
theorem d_Rules_takeSums_94 : decode prog_5_method_17_code 94 = .ok (.if_icmp .eq 8, 3) := by decide +kernel
theorem d_Rules_takeSums_97 : decode prog_5_method_17_code 97 = .ok (.iload 5, 2) := by decide +kernel
theorem d_Rules_takeSums_99 : decode prog_5_method_17_code 99 = .ok (.ifCond .eq 10, 3) := by decide +kernel
theorem d_Rules_takeSums_102 : decode prog_5_method_17_code 102 = .ok (.aload_n 1, 1) := by decide +kernel
theorem d_Rules_takeSums_103 : decode prog_5_method_17_code 103 = .ok (.bipush 120, 2) := by decide +kernel
theorem d_Rules_takeSums_105 : decode prog_5_method_17_code 105 = .ok (.iconst 1, 1) := by decide +kernel
theorem d_Rules_takeSums_106 : decode prog_5_method_17_code 106 = .ok (.iastore, 1) := by decide +kernel
theorem d_Rules_takeSums_107 : decode prog_5_method_17_code 107 = .ok (.iconst 1, 1) := by decide +kernel
theorem d_Rules_takeSums_108 : decode prog_5_method_17_code 108 = .ok (.ireturn, 1) := by decide +kernel
theorem d_Rules_takeSums_109 : decode prog_5_method_17_code 109 = .ok (.aload_n 1, 1) := by decide +kernel
theorem d_Rules_takeSums_110 : decode prog_5_method_17_code 110 = .ok (.bipush 117, 2) := by decide +kernel
theorem d_Rules_takeSums_112 : decode prog_5_method_17_code 112 = .ok (.iconst 1, 1) := by decide +kernel
theorem d_Rules_takeSums_113 : decode prog_5_method_17_code 113 = .ok (.iastore, 1) := by decide +kernel
theorem d_Rules_takeSums_114 : decode prog_5_method_17_code 114 = .ok (.aload_n 1, 1) := by decide +kernel
theorem d_Rules_takeSums_115 : decode prog_5_method_17_code 115 = .ok (.bipush 118, 2) := by decide +kernel
theorem d_Rules_takeSums_117 : decode prog_5_method_17_code 117 = .ok (.iload_n 3, 1) := by decide +kernel
theorem d_Rules_takeSums_118 : decode prog_5_method_17_code 118 = .ok (.iastore, 1) := by decide +kernel
theorem d_Rules_takeSums_119 : decode prog_5_method_17_code 119 = .ok (.aload_n 1, 1) := by decide +kernel
theorem d_Rules_takeSums_120 : decode prog_5_method_17_code 120 = .ok (.bipush 119, 2) := by decide +kernel
theorem d_Rules_takeSums_122 : decode prog_5_method_17_code 122 = .ok (.iload 4, 2) := by decide +kernel
theorem d_Rules_takeSums_124 : decode prog_5_method_17_code 124 = .ok (.iastore, 1) := by decide +kernel
theorem d_Rules_takeSums_125 : decode prog_5_method_17_code 125 = .ok (.iconst 1, 1) := by decide +kernel
theorem d_Rules_takeSums_126 : decode prog_5_method_17_code 126 = .ok (.ireturn, 1) := by decide +kernel
set_option maxHeartbeats 4000000 in
set_option maxRecDepth 100000 in
theorem r_Rules_takeSums_109 {p : Program} {l : Launch} {e : Env} {s : State} {m : MethodId} {args : Array Value} {below : List Frame} {meth : Method} {c : Code} {G : zG} {K : Nat} (X : zX p s m args meth c "AllHome$Rules" prog_5_method_17_code 6 (some .int) G (zA G K)) {r : Int32} {h' : zH} (a1 : Nat) (x3 : Int32) (x4 : Int32) (h : zH) (hm : g_Rules_takeSums_109 a1 x3 x4 h = some (r, h')) {H : Heap} {locs : List Loc} {ls : Array Slot} (hI : zI G K s (zA G K) H locs h) (hl : lv_has ls 6 [(1, .ref (G.1 a1)), (3, .int x3), (4, .int x4)]) : W p l e (zR 1) s m args below meth c H locs 0 0 (MQ below (zQi G K r h') args s 0 0 (zA G K)) (F0 m 109 ls []) := by
  obtain ⟨hx, hb, hml, hown, hts, hr, hlocks, hK, hST, hNs⟩ := id X
  unfold g_Rules_takeSums_109 at hm
  refine lv_aload_n hx hb d_Rules_takeSums_109 rfl (lv_at hl 0 rfl) ?_
  refine lv_bipush (v := (nI 117)) hx hb d_Rules_takeSums_110 (by decide) ?_
  refine lv_iconst (v := (nI 1)) hx hb d_Rules_takeSums_112 (by decide) ?_
  obtain ⟨h113, hv, hm⟩ := zbd hm
  refine z_iast X hI hv d_Rules_takeSums_113 (fun H locs hI => ?_)
  refine lv_aload_n hx hb d_Rules_takeSums_114 rfl (lv_at hl 0 rfl) ?_
  refine lv_bipush (v := (nI 118)) hx hb d_Rules_takeSums_115 (by decide) ?_
  refine lv_iload_n hx hb d_Rules_takeSums_117 rfl (lv_at hl 1 rfl) ?_
  obtain ⟨h118, hv, hm⟩ := zbd hm
  refine z_iast X hI hv d_Rules_takeSums_118 (fun H locs hI => ?_)
  refine lv_aload_n hx hb d_Rules_takeSums_119 rfl (lv_at hl 0 rfl) ?_
  refine lv_bipush (v := (nI 119)) hx hb d_Rules_takeSums_120 (by decide) ?_
  refine lv_iload hx hb d_Rules_takeSums_122 (lv_at hl 2 rfl) ?_
  obtain ⟨h124, hv, hm⟩ := zbd hm
  refine z_iast X hI hv d_Rules_takeSums_124 (fun H locs hI => ?_)
  refine lv_iconst (v := (nI 1)) hx hb d_Rules_takeSums_125 (by decide) ?_
  obtain ⟨rfl, rfl⟩ := zs2 hm
  exact z_iret X hI d_Rules_takeSums_126
set_option maxHeartbeats 4000000 in
set_option maxRecDepth 100000 in
theorem r_Rules_takeSums_80 {p : Program} {l : Launch} {e : Env} {s : State} {m : MethodId} {args : Array Value} {below : List Frame} {meth : Method} {c : Code} {G : zG} {K : Nat} (X : zX p s m args meth c "AllHome$Rules" prog_5_method_17_code 6 (some .int) G (zA G K)) {r : Int32} {h' : zH} (a0 : Nat) (a1 : Nat) (x3 : Int32) (x4 : Int32) (y0 : Int32) (h : zH) (hm : g_Rules_takeSums_80 a0 a1 x3 x4 y0 h = some (r, h')) {H : Heap} {locs : List Loc} {ls : Array Slot} (hI : zI G K s (zA G K) H locs h) (hl : lv_has ls 6 [(0, .ref (G.1 a0)), (1, .ref (G.1 a1)), (3, .int x3), (4, .int x4)]) : W p l e (zR 1) s m args below meth c H locs 0 0 (MQ below (zQi G K r h') args s 0 0 (zA G K)) (F0 m 80 ls [.int y0]) := by
  obtain ⟨hx, hb, hml, hown, hts, hr, hlocks, hK, hST, hNs⟩ := id X
  unfold g_Rules_takeSums_80 at hm
  refine lv_istore (lv' := [(5, .int y0), (0, .ref (G.1 a0)), (1, .ref (G.1 a1)), (3, .int x3), (4, .int x4)]) hx hb d_Rules_takeSums_80 hl (by decide) rfl (fun ls hl => ?_)
  refine lv_iload_n hx hb d_Rules_takeSums_82 rfl (lv_at hl 3 rfl) ?_
  refine lv_iload hx hb d_Rules_takeSums_83 (lv_at hl 4 rfl) ?_
  refine lv_icmp_ne (tgt := 109) hx hb d_Rules_takeSums_85 (by decide) (fun hc85 => ?_) (fun hc85 => ?_)
  · replace hm := zif_f hc85 hm
    exact r_Rules_takeSums_109 X a1 x3 x4 h hm hI (lv_sub hl [2, 3, 4] rfl)
  · replace hm := zif_t hc85 hm
    refine lv_aload_n hx hb d_Rules_takeSums_88 rfl (lv_at hl 1 rfl) ?_
    obtain ⟨v89, hv, hm⟩ := zbd hm
    refine z_getI X hI F_Rules_23 hv d_Rules_takeSums_89 ?_
    refine lv_bipush (v := (nI 8)) hx hb d_Rules_takeSums_92 (by decide) ?_
    refine lv_icmp_eq (tgt := 102) hx hb d_Rules_takeSums_94 (by decide) (fun hc94 => ?_) (fun hc94 => ?_)
    · replace hm := zif_t hc94 hm
      refine lv_aload_n hx hb d_Rules_takeSums_102 rfl (lv_at hl 2 rfl) ?_
      refine lv_bipush (v := (nI 120)) hx hb d_Rules_takeSums_103 (by decide) ?_
      refine lv_iconst (v := (nI 1)) hx hb d_Rules_takeSums_105 (by decide) ?_
      obtain ⟨h106, hv, hm⟩ := zbd hm
      refine z_iast X hI hv d_Rules_takeSums_106 (fun H locs hI => ?_)
      refine lv_iconst (v := (nI 1)) hx hb d_Rules_takeSums_107 (by decide) ?_
      obtain ⟨rfl, rfl⟩ := zs2 hm
      exact z_iret X hI d_Rules_takeSums_108
    · replace hm := zif_f hc94 hm
      refine lv_iload hx hb d_Rules_takeSums_97 (lv_at hl 0 rfl) ?_
      refine lv_if_eq (tgt := 109) hx hb d_Rules_takeSums_99 (by decide) (fun hc99 => ?_) (fun hc99 => ?_)
      · replace hm := zif_t hc99 hm
        exact r_Rules_takeSums_109 X a1 x3 x4 h hm hI (lv_sub hl [2, 3, 4] rfl)
      · replace hm := zif_f hc99 hm
        refine lv_aload_n hx hb d_Rules_takeSums_102 rfl (lv_at hl 2 rfl) ?_
        refine lv_bipush (v := (nI 120)) hx hb d_Rules_takeSums_103 (by decide) ?_
        refine lv_iconst (v := (nI 1)) hx hb d_Rules_takeSums_105 (by decide) ?_
        obtain ⟨h106, hv, hm⟩ := zbd hm
        refine z_iast X hI hv d_Rules_takeSums_106 (fun H locs hI => ?_)
        refine lv_iconst (v := (nI 1)) hx hb d_Rules_takeSums_107 (by decide) ?_
        obtain ⟨rfl, rfl⟩ := zs2 hm
        exact z_iret X hI d_Rules_takeSums_108
set_option maxHeartbeats 4000000 in
set_option maxRecDepth 100000 in
theorem r_Rules_takeSums_24 {p : Program} {l : Launch} {e : Env} {s : State} {m : MethodId} {args : Array Value} {below : List Frame} {meth : Method} {c : Code} {G : zG} {K : Nat} (X : zX p s m args meth c "AllHome$Rules" prog_5_method_17_code 6 (some .int) G (zA G K)) {r : Int32} {h' : zH} (a1 : Nat) (x2 : Int32) (x3 : Int32) (x4 : Int32) (y0 : Int32) (h : zH) (hm : g_Rules_takeSums_24 a1 x2 x3 x4 y0 h = some (r, h')) {H : Heap} {locs : List Loc} {ls : Array Slot} (hI : zI G K s (zA G K) H locs h) (hl : lv_has ls 6 [(1, .ref (G.1 a1)), (2, .int x2), (3, .int x3), (4, .int x4)]) : W p l e (zR 1) s m args below meth c H locs 0 0 (MQ below (zQi G K r h') args s 0 0 (zA G K)) (F0 m 24 ls [.int y0]) := by
  obtain ⟨hx, hb, hml, hown, hts, hr, hlocks, hK, hST, hNs⟩ := id X
  unfold g_Rules_takeSums_24 at hm
  refine lv_istore (lv' := [(5, .int y0), (1, .ref (G.1 a1)), (2, .int x2), (3, .int x3), (4, .int x4)]) hx hb d_Rules_takeSums_24 hl (by decide) rfl (fun ls hl => ?_)
  refine lv_aload_n hx hb d_Rules_takeSums_26 rfl (lv_at hl 1 rfl) ?_
  refine lv_iload hx hb d_Rules_takeSums_27 (lv_at hl 0 rfl) ?_
  refine lv_iload_n hx hb d_Rules_takeSums_29 rfl (lv_at hl 3 rfl) ?_
  refine lv_aload_n hx hb d_Rules_takeSums_30 rfl (lv_at hl 1 rfl) ?_
  refine lv_bipush (v := (nI 105)) hx hb d_Rules_takeSums_31 (by decide) ?_
  refine lv_iload_n hx hb d_Rules_takeSums_33 rfl (lv_at hl 2 rfl) ?_
  refine lv_iadd hx hb d_Rules_takeSums_34 ?_
  obtain ⟨v35, hv, hm⟩ := zbd hm
  refine z_iald X hI hv d_Rules_takeSums_35 ?_
  refine lv_iadd hx hb d_Rules_takeSums_36 ?_
  refine lv_iload hx hb d_Rules_takeSums_37 (lv_at hl 4 rfl) ?_
  refine lv_aload_n hx hb d_Rules_takeSums_39 rfl (lv_at hl 1 rfl) ?_
  refine lv_bipush (v := (nI 111)) hx hb d_Rules_takeSums_40 (by decide) ?_
  refine lv_iload_n hx hb d_Rules_takeSums_42 rfl (lv_at hl 2 rfl) ?_
  refine lv_iadd hx hb d_Rules_takeSums_43 ?_
  obtain ⟨v44, hv, hm⟩ := zbd hm
  refine z_iald X hI hv d_Rules_takeSums_44 ?_
  refine lv_iadd hx hb d_Rules_takeSums_45 ?_
  obtain ⟨v46, h46, hv, hm⟩ := zb2_at hm
  refine z_ci hI (z_runS (As := [.ref (G.1 a1), .int y0, .int (x3 + v35), .int (x4 + v44)]) (rest := []) X hI hl.1 (c_Rules_sendNote l G K a1 y0 (x3 + v35) (x4 + v44) h _ _ hv) C_Rules_77 rfl (Nat.le_of_ble_eq_true rfl) ⟨Nat.le_of_ble_eq_true rfl, Nat.le_of_ble_eq_true rfl, Nat.zero_le _, Nat.zero_le _⟩ rfl d_Rules_takeSums_46) (fun H locs hI => ?_)
  obtain ⟨rfl, rfl⟩ := zs2 hm
  exact z_iret X hI d_Rules_takeSums_49
set_option maxHeartbeats 4000000 in
set_option maxRecDepth 100000 in
theorem r_Rules_takeSums_0 {p : Program} {l : Launch} {e : Env} {s : State} {m : MethodId} {args : Array Value} {below : List Frame} {meth : Method} {c : Code} {G : zG} {K : Nat} (X : zX p s m args meth c "AllHome$Rules" prog_5_method_17_code 6 (some .int) G (zA G K)) {r : Int32} {h' : zH} (a0 : Nat) (a1 : Nat) (x2 : Int32) (x3 : Int32) (x4 : Int32) (h : zH) (hm : m_Rules_takeSums a0 a1 x2 x3 x4 h = some (r, h')) {H : Heap} {locs : List Loc} {ls : Array Slot} (hI : zI G K s (zA G K) H locs h) (hl : lv_has ls 6 [(0, .ref (G.1 a0)), (1, .ref (G.1 a1)), (2, .int x2), (3, .int x3), (4, .int x4)]) : W p l e (zR 1) s m args below meth c H locs 0 0 (MQ below (zQi G K r h') args s 0 0 (zA G K)) (F0 m 0 ls []) := by
  obtain ⟨hx, hb, hml, hown, hts, hr, hlocks, hK, hST, hNs⟩ := id X
  unfold m_Rules_takeSums at hm
  refine lv_iload_n hx hb d_Rules_takeSums_0 rfl (lv_at hl 2 rfl) ?_
  refine lv_if_eq (tgt := 50) hx hb d_Rules_takeSums_1 (by decide) (fun hc1 => ?_) (fun hc1 => ?_)
  · replace hm := zif_t hc1 hm
    refine lv_aload_n hx hb d_Rules_takeSums_50 rfl (lv_at hl 1 rfl) ?_
    refine lv_bipush (v := (nI 117)) hx hb d_Rules_takeSums_51 (by decide) ?_
    obtain ⟨v53, hv, hm⟩ := zbd hm
    refine z_iald X hI hv d_Rules_takeSums_53 ?_
    refine lv_iconst (v := (nI 1)) hx hb d_Rules_takeSums_54 (by decide) ?_
    refine lv_icmp_ne (tgt := 79) hx hb d_Rules_takeSums_55 (by decide) (fun hc55 => ?_) (fun hc55 => ?_)
    · replace hm := zif_f hc55 hm
      refine lv_iconst (v := (nI 0)) hx hb d_Rules_takeSums_79 (by decide) ?_
      exact r_Rules_takeSums_80 X a0 a1 x3 x4 (nI 0) h hm hI (lv_sub hl [0, 1, 3, 4] rfl)
    · replace hm := zif_t hc55 hm
      refine lv_aload_n hx hb d_Rules_takeSums_58 rfl (lv_at hl 1 rfl) ?_
      refine lv_bipush (v := (nI 118)) hx hb d_Rules_takeSums_59 (by decide) ?_
      obtain ⟨v61, hv, hm⟩ := zbd hm
      refine z_iald X hI hv d_Rules_takeSums_61 ?_
      refine lv_iload_n hx hb d_Rules_takeSums_62 rfl (lv_at hl 3 rfl) ?_
      refine lv_icmp_ne (tgt := 79) hx hb d_Rules_takeSums_63 (by decide) (fun hc63 => ?_) (fun hc63 => ?_)
      · replace hm := zif_f hc63 hm
        refine lv_iconst (v := (nI 0)) hx hb d_Rules_takeSums_79 (by decide) ?_
        exact r_Rules_takeSums_80 X a0 a1 x3 x4 (nI 0) h hm hI (lv_sub hl [0, 1, 3, 4] rfl)
      · replace hm := zif_t hc63 hm
        refine lv_aload_n hx hb d_Rules_takeSums_66 rfl (lv_at hl 1 rfl) ?_
        refine lv_bipush (v := (nI 119)) hx hb d_Rules_takeSums_67 (by decide) ?_
        obtain ⟨v69, hv, hm⟩ := zbd hm
        refine z_iald X hI hv d_Rules_takeSums_69 ?_
        refine lv_iload hx hb d_Rules_takeSums_70 (lv_at hl 4 rfl) ?_
        refine lv_icmp_ne (tgt := 79) hx hb d_Rules_takeSums_72 (by decide) (fun hc72 => ?_) (fun hc72 => ?_)
        · replace hm := zif_f hc72 hm
          refine lv_iconst (v := (nI 0)) hx hb d_Rules_takeSums_79 (by decide) ?_
          exact r_Rules_takeSums_80 X a0 a1 x3 x4 (nI 0) h hm hI (lv_sub hl [0, 1, 3, 4] rfl)
        · replace hm := zif_t hc72 hm
          refine lv_iconst (v := (nI 1)) hx hb d_Rules_takeSums_75 (by decide) ?_
          refine lv_goto (tgt := 80) hx hb d_Rules_takeSums_76 (by decide) ?_
          exact r_Rules_takeSums_80 X a0 a1 x3 x4 (nI 1) h hm hI (lv_sub hl [0, 1, 3, 4] rfl)
  · replace hm := zif_f hc1 hm
    refine lv_iload_n hx hb d_Rules_takeSums_4 rfl (lv_at hl 2 rfl) ?_
    refine lv_iconst (v := (nI 1)) hx hb d_Rules_takeSums_5 (by decide) ?_
    refine lv_iadd hx hb d_Rules_takeSums_6 ?_
    refine lv_aload_n hx hb d_Rules_takeSums_7 rfl (lv_at hl 0 rfl) ?_
    obtain ⟨v8, hv, hm⟩ := zbd hm
    refine z_getR X hI F_Rules_9 hv d_Rules_takeSums_8 ?_
    obtain ⟨v11, hv, hm⟩ := zbd hm
    obtain ⟨hq, hv⟩ := zcv_at hv
    refine z_ci hI (z_runV (As := []) (rest := [.int (x2 + (nI 1))]) X hI hl.1 (c_Huts_size l G K v8 h _ hv) C_Rules_104 rfl hq (Nat.le_of_ble_eq_true rfl) ⟨Nat.le_of_ble_eq_true rfl, Nat.le_of_ble_eq_true rfl, Nat.zero_le _, Nat.zero_le _⟩ rfl d_Rules_takeSums_11) (fun H locs hI => ?_)
    refine lv_icmp_ge (tgt := 23) hx hb d_Rules_takeSums_14 (by decide) (fun hc14 => ?_) (fun hc14 => ?_)
    · replace hm := zif_t hc14 hm
      refine lv_iconst (v := (nI 0)) hx hb d_Rules_takeSums_23 (by decide) ?_
      exact r_Rules_takeSums_24 X a1 x2 x3 x4 (nI 0) h hm hI (lv_sub hl [1, 2, 3, 4] rfl)
    · replace hm := zif_f hc14 hm
      refine lv_iload_n hx hb d_Rules_takeSums_17 rfl (lv_at hl 2 rfl) ?_
      refine lv_iconst (v := (nI 1)) hx hb d_Rules_takeSums_18 (by decide) ?_
      refine lv_iadd hx hb d_Rules_takeSums_19 ?_
      refine lv_goto (tgt := 24) hx hb d_Rules_takeSums_20 (by decide) ?_
      exact r_Rules_takeSums_24 X a1 x2 x3 x4 (x2 + (nI 1)) h hm hI (lv_sub hl [1, 2, 3, 4] rfl)
set_option maxHeartbeats 4000000 in
set_option maxRecDepth 100000 in
theorem c_Rules_takeSums (l : Launch) (G : zG) (K : Nat) (a0 : Nat) (a1 : Nat) (x2 : Int32) (x3 : Int32) (x4 : Int32) (h : zH) (r : Int32) (h' : zH) (hm : m_Rules_takeSums a0 a1 x2 x3 x4 h = some (r, h')) : zMi l G K y_Rules_takeSums prog_5_method_17_code 6 1 [.ref (G.1 a0), .ref (G.1 a1), .int x2, .int x3, .int x4] h r h' := zMet (by decide +kernel) (Nat.le_of_ble_eq_true rfl) (fun p e s m below meth c ls X hI hl => r_Rules_takeSums_0 X a0 a1 x2 x3 x4 h hm hI hl)
