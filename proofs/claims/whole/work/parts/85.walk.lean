-- walk of AllHome.stuck
theorem d_Home_stuck_0 : decode prog_1_method_18_code 0 = .ok (.aload_n 0, 1) := by decide +kernel
theorem d_Home_stuck_1 : decode prog_1_method_18_code 1 = .ok (.iload_n 1, 1) := by decide +kernel
theorem d_Home_stuck_2 : decode prog_1_method_18_code 2 = .ok (.invokevirtual 146, 3) := by decide +kernel
theorem d_Home_stuck_5 : decode prog_1_method_18_code 5 = .ok (.istore_n 2, 1) := by decide +kernel
theorem d_Home_stuck_6 : decode prog_1_method_18_code 6 = .ok (.iload_n 2, 1) := by decide +kernel
theorem d_Home_stuck_7 : decode prog_1_method_18_code 7 = .ok (.ifCond .ge 7, 3) := by decide +kernel
theorem d_Home_stuck_10 : decode prog_1_method_18_code 10 = .ok (.iload_n 2, 1) := by decide +kernel
theorem d_Home_stuck_11 : decode prog_1_method_18_code 11 = .ok (.goto 10, 3) := by decide +kernel
theorem d_Home_stuck_14 : decode prog_1_method_18_code 14 = .ok (.aload_n 0, 1) := by decide +kernel
theorem d_Home_stuck_15 : decode prog_1_method_18_code 15 = .ok (.getfield 37, 3) := by decide +kernel
theorem d_Home_stuck_18 : decode prog_1_method_18_code 18 = .ok (.invokevirtual 162, 3) := by decide +kernel
theorem d_Home_stuck_21 : decode prog_1_method_18_code 21 = .ok (.ireturn, 1) := by decide +kernel
set_option maxHeartbeats 4000000 in
set_option maxRecDepth 100000 in
theorem r_Home_stuck_0 {p : Program} {l : Launch} {e : Env} {s : State} {m : MethodId} {args : Array Value} {below : List Frame} {meth : Method} {c : Code} {G : zG} {K : Nat} (X : zX p s m args meth c "AllHome" prog_1_method_18_code 3 (some .int) G (zA G K)) {r : Int32} {h' : zH} (a0 : Nat) (x1 : Int32) (h : zH) (hm : m_Home_stuck a0 x1 h = some (r, h')) {H : Heap} {locs : List Loc} {ls : Array Slot} (hI : zI G K s (zA G K) H locs h) (hl : lv_has ls 3 [(0, .ref (G.1 a0)), (1, .int x1)]) : W p l e (zR 7) s m args below meth c H locs 0 0 (MQ below (zQi G K r h') args s 0 0 (zA G K)) (F0 m 0 ls []) := by
  obtain ⟨hx, hb, hml, hown, hts, hr, hlocks, hK, hST, hNs⟩ := id X
  unfold m_Home_stuck at hm
  refine lv_aload_n hx hb d_Home_stuck_0 rfl (lv_at hl 0 rfl) ?_
  refine lv_iload_n hx hb d_Home_stuck_1 rfl (lv_at hl 1 rfl) ?_
  obtain ⟨v2, h2, hv, hm⟩ := zb2_at hm
  obtain ⟨hq, hv⟩ := zcv_at hv
  refine z_ci hI (z_runV (As := [.int x1]) (rest := []) X hI hl.1 (c_Home_goThrough l G K a0 x1 h _ _ hv) C_Home_146 rfl hq (Nat.le_of_ble_eq_true rfl) ⟨Nat.le_of_ble_eq_true rfl, Nat.le_of_ble_eq_true rfl, Nat.zero_le _, Nat.zero_le _⟩ rfl d_Home_stuck_2) (fun H locs hI => ?_)
  refine lv_istore_n (lv' := [(2, .int v2), (0, .ref (G.1 a0)), (1, .int x1)]) hx hb d_Home_stuck_5 rfl hl (by decide) rfl (fun ls hl => ?_)
  refine lv_iload_n hx hb d_Home_stuck_6 rfl (lv_at hl 0 rfl) ?_
  refine lv_if_ge (tgt := 14) hx hb d_Home_stuck_7 (by decide) (fun hc7 => ?_) (fun hc7 => ?_)
  · replace hm := zif_t hc7 hm
    refine lv_aload_n hx hb d_Home_stuck_14 rfl (lv_at hl 1 rfl) ?_
    obtain ⟨v15, hv, hm⟩ := zbd hm
    refine z_getR X hI F_Home_37 hv d_Home_stuck_15 ?_
    obtain ⟨v18, h18, hv, hm⟩ := zb2_at hm
    obtain ⟨hq, hv⟩ := zcv_at hv
    refine z_ci hI (z_runV (As := []) (rest := []) X hI hl.1 (c_Orders_stuckStates l G K v15 h2 _ _ hv) C_Home_162 rfl hq (Nat.le_of_ble_eq_true rfl) ⟨Nat.le_of_ble_eq_true rfl, Nat.le_of_ble_eq_true rfl, Nat.zero_le _, Nat.zero_le _⟩ rfl d_Home_stuck_18) (fun H locs hI => ?_)
    obtain ⟨rfl, rfl⟩ := zs2 hm
    exact z_iret X hI d_Home_stuck_21
  · replace hm := zif_f hc7 hm
    refine lv_iload_n hx hb d_Home_stuck_10 rfl (lv_at hl 0 rfl) ?_
    refine lv_goto (tgt := 21) hx hb d_Home_stuck_11 (by decide) ?_
    obtain ⟨rfl, rfl⟩ := zs2 hm
    exact z_iret X hI d_Home_stuck_21
set_option maxHeartbeats 4000000 in
set_option maxRecDepth 100000 in
theorem c_Home_stuck (l : Launch) (G : zG) (K : Nat) (a0 : Nat) (x1 : Int32) (h : zH) (r : Int32) (h' : zH) (hm : m_Home_stuck a0 x1 h = some (r, h')) : zMi l G K y_Home_stuck prog_1_method_18_code 3 7 [.ref (G.1 a0), .int x1] h r h' := zMet (by decide +kernel) (Nat.le_of_ble_eq_true rfl) (fun p e s m below meth c ls X hI hl => r_Home_stuck_0 X a0 x1 h hm hI hl)
-- walk of AllHome$Orders.unlikeWorks
theorem d_Orders_unlikeWorks_0 : decode prog_4_method_19_code 0 = .ok (.iconst 0, 1) := by decide +kernel
theorem d_Orders_unlikeWorks_1 : decode prog_4_method_19_code 1 = .ok (.istore_n 1, 1) := by decide +kernel
theorem d_Orders_unlikeWorks_2 : decode prog_4_method_19_code 2 = .ok (.iconst 0, 1) := by decide +kernel
theorem d_Orders_unlikeWorks_3 : decode prog_4_method_19_code 3 = .ok (.istore_n 2, 1) := by decide +kernel
theorem d_Orders_unlikeWorks_4 : decode prog_4_method_19_code 4 = .ok (.iload_n 2, 1) := by decide +kernel
theorem d_Orders_unlikeWorks_5 : decode prog_4_method_19_code 5 = .ok (.aload_n 0, 1) := by decide +kernel
theorem d_Orders_unlikeWorks_6 : decode prog_4_method_19_code 6 = .ok (.getfield 63, 3) := by decide +kernel
theorem d_Orders_unlikeWorks_9 : decode prog_4_method_19_code 9 = .ok (.if_icmp .ge 69, 3) := by decide +kernel
theorem d_Orders_unlikeWorks_12 : decode prog_4_method_19_code 12 = .ok (.iconst 1, 1) := by decide +kernel
theorem d_Orders_unlikeWorks_13 : decode prog_4_method_19_code 13 = .ok (.istore_n 3, 1) := by decide +kernel
theorem d_Orders_unlikeWorks_14 : decode prog_4_method_19_code 14 = .ok (.iconst 0, 1) := by decide +kernel
theorem d_Orders_unlikeWorks_15 : decode prog_4_method_19_code 15 = .ok (.istore 4, 2) := by decide +kernel
theorem d_Orders_unlikeWorks_17 : decode prog_4_method_19_code 17 = .ok (.iload 4, 2) := by decide +kernel
theorem d_Orders_unlikeWorks_19 : decode prog_4_method_19_code 19 = .ok (.iload_n 2, 1) := by decide +kernel
theorem d_Orders_unlikeWorks_20 : decode prog_4_method_19_code 20 = .ok (.if_icmp .ge 40, 3) := by decide +kernel
theorem d_Orders_unlikeWorks_23 : decode prog_4_method_19_code 23 = .ok (.iload_n 3, 1) := by decide +kernel
theorem d_Orders_unlikeWorks_24 : decode prog_4_method_19_code 24 = .ok (.ifCond .eq 36, 3) := by decide +kernel
theorem d_Orders_unlikeWorks_27 : decode prog_4_method_19_code 27 = .ok (.aload_n 0, 1) := by decide +kernel
theorem d_Orders_unlikeWorks_28 : decode prog_4_method_19_code 28 = .ok (.getfield 13, 3) := by decide +kernel
theorem d_Orders_unlikeWorks_31 : decode prog_4_method_19_code 31 = .ok (.iload_n 2, 1) := by decide +kernel
theorem d_Orders_unlikeWorks_32 : decode prog_4_method_19_code 32 = .ok (.aaload, 1) := by decide +kernel
theorem d_Orders_unlikeWorks_33 : decode prog_4_method_19_code 33 = .ok (.aload_n 0, 1) := by decide +kernel
theorem d_Orders_unlikeWorks_34 : decode prog_4_method_19_code 34 = .ok (.getfield 13, 3) := by decide +kernel
theorem d_Orders_unlikeWorks_37 : decode prog_4_method_19_code 37 = .ok (.iload 4, 2) := by decide +kernel
theorem d_Orders_unlikeWorks_39 : decode prog_4_method_19_code 39 = .ok (.aaload, 1) := by decide +kernel
theorem d_Orders_unlikeWorks_40 : decode prog_4_method_19_code 40 = .ok (.bipush 35, 2) := by decide +kernel
theorem d_Orders_unlikeWorks_42 : decode prog_4_method_19_code 42 = .ok (.invokestatic 104, 3) := by decide +kernel
theorem d_Orders_unlikeWorks_45 : decode prog_4_method_19_code 45 = .ok (.ifCond .ne 7, 3) := by decide +kernel
theorem d_Orders_unlikeWorks_48 : decode prog_4_method_19_code 48 = .ok (.iconst 1, 1) := by decide +kernel
theorem d_Orders_unlikeWorks_49 : decode prog_4_method_19_code 49 = .ok (.goto 4, 3) := by decide +kernel
theorem d_Orders_unlikeWorks_52 : decode prog_4_method_19_code 52 = .ok (.iconst 0, 1) := by decide +kernel
theorem d_Orders_unlikeWorks_53 : decode prog_4_method_19_code 53 = .ok (.istore_n 3, 1) := by decide +kernel
theorem d_Orders_unlikeWorks_54 : decode prog_4_method_19_code 54 = .ok (.iinc 4 1, 3) := by decide +kernel
theorem d_Orders_unlikeWorks_57 : decode prog_4_method_19_code 57 = .ok (.goto (-40), 3) := by decide +kernel
theorem d_Orders_unlikeWorks_60 : decode prog_4_method_19_code 60 = .ok (.iload_n 1, 1) := by decide +kernel
theorem d_Orders_unlikeWorks_61 : decode prog_4_method_19_code 61 = .ok (.iload_n 3, 1) := by decide +kernel
theorem d_Orders_unlikeWorks_62 : decode prog_4_method_19_code 62 = .ok (.ifCond .eq 7, 3) := by decide +kernel
theorem d_Orders_unlikeWorks_65 : decode prog_4_method_19_code 65 = .ok (.iconst 1, 1) := by decide +kernel
theorem d_Orders_unlikeWorks_66 : decode prog_4_method_19_code 66 = .ok (.goto 4, 3) := by decide +kernel
theorem d_Orders_unlikeWorks_69 : decode prog_4_method_19_code 69 = .ok (.iconst 0, 1) := by decide +kernel
theorem d_Orders_unlikeWorks_70 : decode prog_4_method_19_code 70 = .ok (.iadd, 1) := by decide +kernel
theorem d_Orders_unlikeWorks_71 : decode prog_4_method_19_code 71 = .ok (.istore_n 1, 1) := by decide +kernel
theorem d_Orders_unlikeWorks_72 : decode prog_4_method_19_code 72 = .ok (.iinc 2 1, 3) := by decide +kernel
theorem d_Orders_unlikeWorks_75 : decode prog_4_method_19_code 75 = .ok (.goto (-71), 3) := by decide +kernel
theorem d_Orders_unlikeWorks_78 : decode prog_4_method_19_code 78 = .ok (.iload_n 1, 1) := by decide +kernel
theorem d_Orders_unlikeWorks_79 : decode prog_4_method_19_code 79 = .ok (.ireturn, 1) := by decide +kernel
set_option maxHeartbeats 4000000 in
set_option maxRecDepth 100000 in
theorem r_Orders_unlikeWorks_60 {p : Program} {l : Launch} {e : Env} {s : State} {m : MethodId} {args : Array Value} {below : List Frame} {meth : Method} {c : Code} {G : zG} {K : Nat} (X : zX p s m args meth c "AllHome$Orders" prog_4_method_19_code 5 (some .int) G (zA G K)) {r : Int32} (a0 : Nat) (x1 : Int32) (x2 : Int32) (x3 : Int32) (h : zH) (k4 : (Int32 × Int32) → Option Int32) (hk4 : ∀ (w : Int32 × Int32), k4 w = some r → ∀ (H : Heap) (locs : List Loc) (ls : Array Slot), zI G K s (zA G K) H locs h → lv_has ls 5 [(0, .ref (G.1 a0)), (1, .int w.1), (2, .int w.2)] → W p l e (zR 1) s m args below meth c H locs 0 0 (MQ below (zQi G K r h) args s 0 0 (zA G K)) (F0 m 4 ls [])) (hm : g_Orders_unlikeWorks_60 a0 x1 x2 x3 h k4 = some r) {H : Heap} {locs : List Loc} {ls : Array Slot} (hI : zI G K s (zA G K) H locs h) (hl : lv_has ls 5 [(0, .ref (G.1 a0)), (1, .int x1), (2, .int x2), (3, .int x3)]) : W p l e (zR 1) s m args below meth c H locs 0 0 (MQ below (zQi G K r h) args s 0 0 (zA G K)) (F0 m 60 ls []) := by
  obtain ⟨hx, hb, hml, hown, hts, hr, hlocks, hK, hST, hNs⟩ := id X
  unfold g_Orders_unlikeWorks_60 at hm
  refine lv_iload_n hx hb d_Orders_unlikeWorks_60 rfl (lv_at hl 1 rfl) ?_
  refine lv_iload_n hx hb d_Orders_unlikeWorks_61 rfl (lv_at hl 3 rfl) ?_
  refine lv_if_eq (tgt := 69) hx hb d_Orders_unlikeWorks_62 (by decide) (fun hc62 => ?_) (fun hc62 => ?_)
  · replace hm := zif_t hc62 hm
    refine lv_iconst (v := (nI 0)) hx hb d_Orders_unlikeWorks_69 (by decide) ?_
    refine lv_iadd hx hb d_Orders_unlikeWorks_70 ?_
    refine lv_istore_n (lv' := [(1, .int (x1 + (nI 0))), (0, .ref (G.1 a0)), (2, .int x2), (3, .int x3)]) hx hb d_Orders_unlikeWorks_71 rfl hl (by decide) rfl (fun ls hl => ?_)
    refine lv_iinc (v := (x2 + (nI 1))) (lv' := [(2, .int (x2 + (nI 1))), (1, .int (x1 + (nI 0))), (0, .ref (G.1 a0)), (3, .int x3)]) hx hb d_Orders_unlikeWorks_72 hl (k := 2) rfl (congrArg (fun z => x2 + z) (show Int32.ofInt (1) = (nI 1) by decide)) (by decide) rfl (fun ls hl => ?_)
    refine lv_goto (tgt := 4) hx hb d_Orders_unlikeWorks_75 (by decide) ?_
    obtain ⟨g0, e0⟩ : ∃ z, z = (x1 + (nI 0)) := ⟨_, rfl⟩
    rw [← e0] at hm hl
    obtain ⟨g1, e1⟩ : ∃ z, z = (x2 + (nI 1)) := ⟨_, rfl⟩
    rw [← e1] at hm hl
    exact hk4 (g0, g1) hm _ _ _ hI (lv_sub hl [2, 1, 0] rfl)
  · replace hm := zif_f hc62 hm
    refine lv_iconst (v := (nI 1)) hx hb d_Orders_unlikeWorks_65 (by decide) ?_
    refine lv_goto (tgt := 70) hx hb d_Orders_unlikeWorks_66 (by decide) ?_
    refine lv_iadd hx hb d_Orders_unlikeWorks_70 ?_
    refine lv_istore_n (lv' := [(1, .int (x1 + (nI 1))), (0, .ref (G.1 a0)), (2, .int x2), (3, .int x3)]) hx hb d_Orders_unlikeWorks_71 rfl hl (by decide) rfl (fun ls hl => ?_)
    refine lv_iinc (v := (x2 + (nI 1))) (lv' := [(2, .int (x2 + (nI 1))), (1, .int (x1 + (nI 1))), (0, .ref (G.1 a0)), (3, .int x3)]) hx hb d_Orders_unlikeWorks_72 hl (k := 2) rfl (congrArg (fun z => x2 + z) (show Int32.ofInt (1) = (nI 1) by decide)) (by decide) rfl (fun ls hl => ?_)
    refine lv_goto (tgt := 4) hx hb d_Orders_unlikeWorks_75 (by decide) ?_
    obtain ⟨g0, e0⟩ : ∃ z, z = (x1 + (nI 1)) := ⟨_, rfl⟩
    rw [← e0] at hm hl
    obtain ⟨g1, e1⟩ : ∃ z, z = (x2 + (nI 1)) := ⟨_, rfl⟩
    rw [← e1] at hm hl
    exact hk4 (g0, g1) hm _ _ _ hI (lv_sub hl [2, 1, 0] rfl)
set_option maxHeartbeats 4000000 in
set_option maxRecDepth 100000 in
theorem r_Orders_unlikeWorks_17_b {p : Program} {l : Launch} {e : Env} {s : State} {m : MethodId} {args : Array Value} {below : List Frame} {meth : Method} {c : Code} {G : zG} {K : Nat} (X : zX p s m args meth c "AllHome$Orders" prog_4_method_19_code 5 (some .int) G (zA G K)) {r : Int32} (a0 : Nat) (x1 : Int32) (x2 : Int32) (h : zH) (k4 : (Int32 × Int32) → Option Int32) (hk4 : ∀ (w : Int32 × Int32), k4 w = some r → ∀ (H : Heap) (locs : List Loc) (ls : Array Slot), zI G K s (zA G K) H locs h → lv_has ls 5 [(0, .ref (G.1 a0)), (1, .int w.1), (2, .int w.2)] → W p l e (zR 1) s m args below meth c H locs 0 0 (MQ below (zQi G K r h) args s 0 0 (zA G K)) (F0 m 4 ls [])) (k17 : (Int32 × Int32) → Option Int32) (hk17 : ∀ (w : Int32 × Int32), k17 w = some r → ∀ (H : Heap) (locs : List Loc) (ls : Array Slot), zI G K s (zA G K) H locs h → lv_has ls 5 [(0, .ref (G.1 a0)), (1, .int x1), (2, .int x2), (3, .int w.1), (4, .int w.2)] → W p l e (zR 1) s m args below meth c H locs 0 0 (MQ below (zQi G K r h) args s 0 0 (zA G K)) (F0 m 17 ls [])) (u : Int32 × Int32) (hm : g_Orders_unlikeWorks_17 a0 x1 x2 h k4 k17 u = some r) {H : Heap} {locs : List Loc} {ls : Array Slot} (hI : zI G K s (zA G K) H locs h) (hl : lv_has ls 5 [(0, .ref (G.1 a0)), (1, .int x1), (2, .int x2), (3, .int u.1), (4, .int u.2)]) : W p l e (zR 1) s m args below meth c H locs 0 0 (MQ below (zQi G K r h) args s 0 0 (zA G K)) (F0 m 17 ls []) := by
  obtain ⟨hx, hb, hml, hown, hts, hr, hlocks, hK, hST, hNs⟩ := id X
  unfold g_Orders_unlikeWorks_17 at hm
  refine lv_iload hx hb d_Orders_unlikeWorks_17 (lv_at hl 4 rfl) ?_
  refine lv_iload_n hx hb d_Orders_unlikeWorks_19 rfl (lv_at hl 2 rfl) ?_
  refine lv_icmp_ge (tgt := 60) hx hb d_Orders_unlikeWorks_20 (by decide) (fun hc20 => ?_) (fun hc20 => ?_)
  · replace hm := zif_t hc20 hm
    exact r_Orders_unlikeWorks_60 X a0 x1 x2 u.1 h k4 hk4 hm hI (lv_sub hl [0, 1, 2, 3] rfl)
  · replace hm := zif_f hc20 hm
    refine lv_iload_n hx hb d_Orders_unlikeWorks_23 rfl (lv_at hl 3 rfl) ?_
    refine lv_if_eq (tgt := 60) hx hb d_Orders_unlikeWorks_24 (by decide) (fun hc24 => ?_) (fun hc24 => ?_)
    · replace hm := zif_t hc24 hm
      exact r_Orders_unlikeWorks_60 X a0 x1 x2 u.1 h k4 hk4 hm hI (lv_sub hl [0, 1, 2, 3] rfl)
    · replace hm := zif_f hc24 hm
      refine lv_aload_n hx hb d_Orders_unlikeWorks_27 rfl (lv_at hl 0 rfl) ?_
      obtain ⟨v28, hv, hm⟩ := zbd hm
      refine z_getR X hI F_Orders_13 hv d_Orders_unlikeWorks_28 ?_
      refine lv_iload_n hx hb d_Orders_unlikeWorks_31 rfl (lv_at hl 2 rfl) ?_
      obtain ⟨v32, hv, hm⟩ := zbd hm
      refine z_aald X hI 5 (.array .int) rfl rfl hv d_Orders_unlikeWorks_32 ?_
      refine lv_aload_n hx hb d_Orders_unlikeWorks_33 rfl (lv_at hl 0 rfl) ?_
      obtain ⟨v34, hv, hm⟩ := zbd hm
      refine z_getR X hI F_Orders_13 hv d_Orders_unlikeWorks_34 ?_
      refine lv_iload hx hb d_Orders_unlikeWorks_37 (lv_at hl 4 rfl) ?_
      obtain ⟨v39, hv, hm⟩ := zbd hm
      refine z_aald X hI 5 (.array .int) rfl rfl hv d_Orders_unlikeWorks_39 ?_
      refine lv_bipush (v := (nI 35)) hx hb d_Orders_unlikeWorks_40 (by decide) ?_
      obtain ⟨v42, hv, hm⟩ := zbd hm
      refine z_ci hI (z_runS (As := [.ref (G.1 v32), .ref (G.1 v39), .int (nI 35)]) (rest := []) X hI hl.1 (c_Orders_alike l G K v32 v39 (nI 35) h _ hv) C_Orders_104 rfl (Nat.le_of_ble_eq_true rfl) ⟨Nat.le_of_ble_eq_true rfl, Nat.le_of_ble_eq_true rfl, Nat.zero_le _, Nat.zero_le _⟩ rfl d_Orders_unlikeWorks_42) (fun H locs hI => ?_)
      refine lv_if_ne (tgt := 52) hx hb d_Orders_unlikeWorks_45 (by decide) (fun hc45 => ?_) (fun hc45 => ?_)
      · replace hm := zif_f hc45 hm
        refine lv_iconst (v := (nI 0)) hx hb d_Orders_unlikeWorks_52 (by decide) ?_
        refine lv_istore_n (lv' := [(3, .int (nI 0)), (0, .ref (G.1 a0)), (1, .int x1), (2, .int x2), (4, .int u.2)]) hx hb d_Orders_unlikeWorks_53 rfl hl (by decide) rfl (fun ls hl => ?_)
        refine lv_iinc (v := (u.2 + (nI 1))) (lv' := [(4, .int (u.2 + (nI 1))), (3, .int (nI 0)), (0, .ref (G.1 a0)), (1, .int x1), (2, .int x2)]) hx hb d_Orders_unlikeWorks_54 hl (k := 4) rfl (congrArg (fun z => u.2 + z) (show Int32.ofInt (1) = (nI 1) by decide)) (by decide) rfl (fun ls hl => ?_)
        refine lv_goto (tgt := 17) hx hb d_Orders_unlikeWorks_57 (by decide) ?_
        obtain ⟨g1, e1⟩ : ∃ z, z = (u.2 + (nI 1)) := ⟨_, rfl⟩
        rw [← e1] at hm hl
        exact hk17 ((nI 0), g1) hm _ _ _ hI (lv_sub hl [2, 3, 4, 1, 0] rfl)
      · replace hm := zif_t hc45 hm
        refine lv_iconst (v := (nI 1)) hx hb d_Orders_unlikeWorks_48 (by decide) ?_
        refine lv_goto (tgt := 53) hx hb d_Orders_unlikeWorks_49 (by decide) ?_
        refine lv_istore_n (lv' := [(3, .int (nI 1)), (0, .ref (G.1 a0)), (1, .int x1), (2, .int x2), (4, .int u.2)]) hx hb d_Orders_unlikeWorks_53 rfl hl (by decide) rfl (fun ls hl => ?_)
        refine lv_iinc (v := (u.2 + (nI 1))) (lv' := [(4, .int (u.2 + (nI 1))), (3, .int (nI 1)), (0, .ref (G.1 a0)), (1, .int x1), (2, .int x2)]) hx hb d_Orders_unlikeWorks_54 hl (k := 4) rfl (congrArg (fun z => u.2 + z) (show Int32.ofInt (1) = (nI 1) by decide)) (by decide) rfl (fun ls hl => ?_)
        refine lv_goto (tgt := 17) hx hb d_Orders_unlikeWorks_57 (by decide) ?_
        obtain ⟨g1, e1⟩ : ∃ z, z = (u.2 + (nI 1)) := ⟨_, rfl⟩
        rw [← e1] at hm hl
        exact hk17 ((nI 1), g1) hm _ _ _ hI (lv_sub hl [2, 3, 4, 1, 0] rfl)
theorem r_Orders_unlikeWorks_17 {p : Program} {l : Launch} {e : Env} {s : State} {m : MethodId} {args : Array Value} {below : List Frame} {meth : Method} {c : Code} {G : zG} {K : Nat} (X : zX p s m args meth c "AllHome$Orders" prog_4_method_19_code 5 (some .int) G (zA G K)) {r : Int32} (a0 : Nat) (x1 : Int32) (x2 : Int32) (h : zH) (k4 : (Int32 × Int32) → Option Int32) (hk4 : ∀ (w : Int32 × Int32), k4 w = some r → ∀ (H : Heap) (locs : List Loc) (ls : Array Slot), zI G K s (zA G K) H locs h → lv_has ls 5 [(0, .ref (G.1 a0)), (1, .int w.1), (2, .int w.2)] → W p l e (zR 1) s m args below meth c H locs 0 0 (MQ below (zQi G K r h) args s 0 0 (zA G K)) (F0 m 4 ls [])) : ∀ (n : Nat) (w : Int32 × Int32), zloop (g_Orders_unlikeWorks_17 a0 x1 x2 h k4) n w = some r → ∀ (H : Heap) (locs : List Loc) (ls : Array Slot), zI G K s (zA G K) H locs h → lv_has ls 5 [(0, .ref (G.1 a0)), (1, .int x1), (2, .int x2), (3, .int w.1), (4, .int w.2)] → W p l e (zR 1) s m args below meth c H locs 0 0 (MQ below (zQi G K r h) args s 0 0 (zA G K)) (F0 m 17 ls []) := by
  intro n
  induction n with
  | zero => intro w hm; cases hm
  | succ n ih => intro w hm H locs ls hI hl; exact r_Orders_unlikeWorks_17_b X a0 x1 x2 h k4 hk4 (zloop (g_Orders_unlikeWorks_17 a0 x1 x2 h k4) n) ih w (zls hm) hI hl
set_option maxHeartbeats 4000000 in
set_option maxRecDepth 100000 in
theorem r_Orders_unlikeWorks_4_b {p : Program} {l : Launch} {e : Env} {s : State} {m : MethodId} {args : Array Value} {below : List Frame} {meth : Method} {c : Code} {G : zG} {K : Nat} (X : zX p s m args meth c "AllHome$Orders" prog_4_method_19_code 5 (some .int) G (zA G K)) {r : Int32} (a0 : Nat) (h : zH) (k4 : (Int32 × Int32) → Option Int32) (hk4 : ∀ (w : Int32 × Int32), k4 w = some r → ∀ (H : Heap) (locs : List Loc) (ls : Array Slot), zI G K s (zA G K) H locs h → lv_has ls 5 [(0, .ref (G.1 a0)), (1, .int w.1), (2, .int w.2)] → W p l e (zR 1) s m args below meth c H locs 0 0 (MQ below (zQi G K r h) args s 0 0 (zA G K)) (F0 m 4 ls [])) (u : Int32 × Int32) (hm : g_Orders_unlikeWorks_4 a0 h k4 u = some r) {H : Heap} {locs : List Loc} {ls : Array Slot} (hI : zI G K s (zA G K) H locs h) (hl : lv_has ls 5 [(0, .ref (G.1 a0)), (1, .int u.1), (2, .int u.2)]) : W p l e (zR 1) s m args below meth c H locs 0 0 (MQ below (zQi G K r h) args s 0 0 (zA G K)) (F0 m 4 ls []) := by
  obtain ⟨hx, hb, hml, hown, hts, hr, hlocks, hK, hST, hNs⟩ := id X
  unfold g_Orders_unlikeWorks_4 at hm
  refine lv_iload_n hx hb d_Orders_unlikeWorks_4 rfl (lv_at hl 2 rfl) ?_
  refine lv_aload_n hx hb d_Orders_unlikeWorks_5 rfl (lv_at hl 0 rfl) ?_
  obtain ⟨v6, hv, hm⟩ := zbd hm
  refine z_getI X hI F_Orders_63 hv d_Orders_unlikeWorks_6 ?_
  refine lv_icmp_ge (tgt := 78) hx hb d_Orders_unlikeWorks_9 (by decide) (fun hc9 => ?_) (fun hc9 => ?_)
  · replace hm := zif_t hc9 hm
    refine lv_iload_n hx hb d_Orders_unlikeWorks_78 rfl (lv_at hl 1 rfl) ?_
    obtain rfl := zs1 hm
    exact z_iret X hI d_Orders_unlikeWorks_79
  · replace hm := zif_f hc9 hm
    refine lv_iconst (v := (nI 1)) hx hb d_Orders_unlikeWorks_12 (by decide) ?_
    refine lv_istore_n (lv' := [(3, .int (nI 1)), (0, .ref (G.1 a0)), (1, .int u.1), (2, .int u.2)]) hx hb d_Orders_unlikeWorks_13 rfl hl (by decide) rfl (fun ls hl => ?_)
    refine lv_iconst (v := (nI 0)) hx hb d_Orders_unlikeWorks_14 (by decide) ?_
    refine lv_istore (lv' := [(4, .int (nI 0)), (3, .int (nI 1)), (0, .ref (G.1 a0)), (1, .int u.1), (2, .int u.2)]) hx hb d_Orders_unlikeWorks_15 hl (by decide) rfl (fun ls hl => ?_)
    exact r_Orders_unlikeWorks_17 X a0 u.1 u.2 h k4 hk4 zN ((nI 1), (nI 0)) hm _ _ _ hI (lv_sub hl [2, 3, 4, 1, 0] rfl)
theorem r_Orders_unlikeWorks_4 {p : Program} {l : Launch} {e : Env} {s : State} {m : MethodId} {args : Array Value} {below : List Frame} {meth : Method} {c : Code} {G : zG} {K : Nat} (X : zX p s m args meth c "AllHome$Orders" prog_4_method_19_code 5 (some .int) G (zA G K)) {r : Int32} (a0 : Nat) (h : zH) : ∀ (n : Nat) (w : Int32 × Int32), zloop (g_Orders_unlikeWorks_4 a0 h) n w = some r → ∀ (H : Heap) (locs : List Loc) (ls : Array Slot), zI G K s (zA G K) H locs h → lv_has ls 5 [(0, .ref (G.1 a0)), (1, .int w.1), (2, .int w.2)] → W p l e (zR 1) s m args below meth c H locs 0 0 (MQ below (zQi G K r h) args s 0 0 (zA G K)) (F0 m 4 ls []) := by
  intro n
  induction n with
  | zero => intro w hm; cases hm
  | succ n ih => intro w hm H locs ls hI hl; exact r_Orders_unlikeWorks_4_b X a0 h (zloop (g_Orders_unlikeWorks_4 a0 h) n) ih w (zls hm) hI hl
set_option maxHeartbeats 4000000 in
set_option maxRecDepth 100000 in
theorem r_Orders_unlikeWorks_0 {p : Program} {l : Launch} {e : Env} {s : State} {m : MethodId} {args : Array Value} {below : List Frame} {meth : Method} {c : Code} {G : zG} {K : Nat} (X : zX p s m args meth c "AllHome$Orders" prog_4_method_19_code 5 (some .int) G (zA G K)) {r : Int32} (a0 : Nat) (h : zH) (hm : m_Orders_unlikeWorks a0 h = some r) {H : Heap} {locs : List Loc} {ls : Array Slot} (hI : zI G K s (zA G K) H locs h) (hl : lv_has ls 5 [(0, .ref (G.1 a0))]) : W p l e (zR 1) s m args below meth c H locs 0 0 (MQ below (zQi G K r h) args s 0 0 (zA G K)) (F0 m 0 ls []) := by
  obtain ⟨hx, hb, hml, hown, hts, hr, hlocks, hK, hST, hNs⟩ := id X
  unfold m_Orders_unlikeWorks at hm
  refine lv_iconst (v := (nI 0)) hx hb d_Orders_unlikeWorks_0 (by decide) ?_
  refine lv_istore_n (lv' := [(1, .int (nI 0)), (0, .ref (G.1 a0))]) hx hb d_Orders_unlikeWorks_1 rfl hl (by decide) rfl (fun ls hl => ?_)
  refine lv_iconst (v := (nI 0)) hx hb d_Orders_unlikeWorks_2 (by decide) ?_
  refine lv_istore_n (lv' := [(2, .int (nI 0)), (1, .int (nI 0)), (0, .ref (G.1 a0))]) hx hb d_Orders_unlikeWorks_3 rfl hl (by decide) rfl (fun ls hl => ?_)
  exact r_Orders_unlikeWorks_4 X a0 h zN ((nI 0), (nI 0)) hm _ _ _ hI (lv_sub hl [2, 1, 0] rfl)
set_option maxHeartbeats 4000000 in
set_option maxRecDepth 100000 in
theorem c_Orders_unlikeWorks (l : Launch) (G : zG) (K : Nat) (a0 : Nat) (h : zH) (r : Int32) (hm : m_Orders_unlikeWorks a0 h = some r) : zMi l G K y_Orders_unlikeWorks prog_4_method_19_code 5 1 [.ref (G.1 a0)] h r h := zMet (by decide +kernel) (Nat.le_of_ble_eq_true rfl) (fun p e s m below meth c ls X hI hl => r_Orders_unlikeWorks_0 X a0 h hm hI hl)
-- walk of AllHome.work
theorem d_Home_work_0 : decode prog_1_method_19_code 0 = .ok (.iload_n 2, 1) := by decide +kernel
theorem d_Home_work_1 : decode prog_1_method_19_code 1 = .ok (.ifCond .lt 8, 3) := by decide +kernel
theorem d_Home_work_4 : decode prog_1_method_19_code 4 = .ok (.iload_n 2, 1) := by decide +kernel
theorem d_Home_work_5 : decode prog_1_method_19_code 5 = .ok (.iconst 1, 1) := by decide +kernel
theorem d_Home_work_6 : decode prog_1_method_19_code 6 = .ok (.if_icmp .le 5, 3) := by decide +kernel
theorem d_Home_work_9 : decode prog_1_method_19_code 9 = .ok (.iconst (-1), 1) := by decide +kernel
theorem d_Home_work_10 : decode prog_1_method_19_code 10 = .ok (.ireturn, 1) := by decide +kernel
theorem d_Home_work_11 : decode prog_1_method_19_code 11 = .ok (.aload_n 0, 1) := by decide +kernel
theorem d_Home_work_12 : decode prog_1_method_19_code 12 = .ok (.iload_n 1, 1) := by decide +kernel
theorem d_Home_work_13 : decode prog_1_method_19_code 13 = .ok (.invokevirtual 146, 3) := by decide +kernel
theorem d_Home_work_16 : decode prog_1_method_19_code 16 = .ok (.istore_n 3, 1) := by decide +kernel
theorem d_Home_work_17 : decode prog_1_method_19_code 17 = .ok (.iload_n 3, 1) := by decide +kernel
theorem d_Home_work_18 : decode prog_1_method_19_code 18 = .ok (.ifCond .ge 5, 3) := by decide +kernel
theorem d_Home_work_21 : decode prog_1_method_19_code 21 = .ok (.iload_n 3, 1) := by decide +kernel
theorem d_Home_work_22 : decode prog_1_method_19_code 22 = .ok (.ireturn, 1) := by decide +kernel
theorem d_Home_work_23 : decode prog_1_method_19_code 23 = .ok (.iload_n 2, 1) := by decide +kernel
theorem d_Home_work_24 : decode prog_1_method_19_code 24 = .ok (.ifCond .ne 11, 3) := by decide +kernel
theorem d_Home_work_27 : decode prog_1_method_19_code 27 = .ok (.aload_n 0, 1) := by decide +kernel
theorem d_Home_work_28 : decode prog_1_method_19_code 28 = .ok (.getfield 37, 3) := by decide +kernel
theorem d_Home_work_31 : decode prog_1_method_19_code 31 = .ok (.invokevirtual 165, 3) := by decide +kernel
theorem d_Home_work_34 : decode prog_1_method_19_code 34 = .ok (.ireturn, 1) := by decide +kernel
theorem d_Home_work_35 : decode prog_1_method_19_code 35 = .ok (.aload_n 0, 1) := by decide +kernel
theorem d_Home_work_36 : decode prog_1_method_19_code 36 = .ok (.getfield 41, 3) := by decide +kernel
theorem d_Home_work_39 : decode prog_1_method_19_code 39 = .ok (.iconst 0, 1) := by decide +kernel
theorem d_Home_work_40 : decode prog_1_method_19_code 40 = .ok (.invokevirtual 168, 3) := by decide +kernel
theorem d_Home_work_43 : decode prog_1_method_19_code 43 = .ok (.aload_n 0, 1) := by decide +kernel
theorem d_Home_work_44 : decode prog_1_method_19_code 44 = .ok (.getfield 41, 3) := by decide +kernel
theorem d_Home_work_47 : decode prog_1_method_19_code 47 = .ok (.invokevirtual 172, 3) := by decide +kernel
theorem d_Home_work_50 : decode prog_1_method_19_code 50 = .ok (.ifCond .eq 6, 3) := by decide +kernel
theorem d_Home_work_53 : decode prog_1_method_19_code 53 = .ok (.bipush (-4), 2) := by decide +kernel
theorem d_Home_work_55 : decode prog_1_method_19_code 55 = .ok (.ireturn, 1) := by decide +kernel
theorem d_Home_work_56 : decode prog_1_method_19_code 56 = .ok (.aload_n 0, 1) := by decide +kernel
theorem d_Home_work_57 : decode prog_1_method_19_code 57 = .ok (.getfield 37, 3) := by decide +kernel
theorem d_Home_work_60 : decode prog_1_method_19_code 60 = .ok (.invokevirtual 165, 3) := by decide +kernel
theorem d_Home_work_63 : decode prog_1_method_19_code 63 = .ok (.aload_n 0, 1) := by decide +kernel
theorem d_Home_work_64 : decode prog_1_method_19_code 64 = .ok (.getfield 41, 3) := by decide +kernel
theorem d_Home_work_67 : decode prog_1_method_19_code 67 = .ok (.invokevirtual 165, 3) := by decide +kernel
theorem d_Home_work_70 : decode prog_1_method_19_code 70 = .ok (.if_icmp .ne 7, 3) := by decide +kernel
theorem d_Home_work_73 : decode prog_1_method_19_code 73 = .ok (.iconst 1, 1) := by decide +kernel
theorem d_Home_work_74 : decode prog_1_method_19_code 74 = .ok (.goto 4, 3) := by decide +kernel
theorem d_Home_work_77 : decode prog_1_method_19_code 77 = .ok (.iconst 0, 1) := by decide +kernel
theorem d_Home_work_78 : decode prog_1_method_19_code 78 = .ok (.ireturn, 1) := by decide +kernel
set_option maxHeartbeats 4000000 in
set_option maxRecDepth 100000 in
theorem r_Home_work_0 {p : Program} {l : Launch} {e : Env} {s : State} {m : MethodId} {args : Array Value} {below : List Frame} {meth : Method} {c : Code} {G : zG} {K : Nat} (X : zX p s m args meth c "AllHome" prog_1_method_19_code 4 (some .int) G (zA G K)) {r : Int32} {h' : zH} (a0 : Nat) (x1 : Int32) (x2 : Int32) (h : zH) (hm : m_Home_work a0 x1 x2 h = some (r, h')) {H : Heap} {locs : List Loc} {ls : Array Slot} (hI : zI G K s (zA G K) H locs h) (hl : lv_has ls 4 [(0, .ref (G.1 a0)), (1, .int x1), (2, .int x2)]) : W p l e (zR 7) s m args below meth c H locs 0 0 (MQ below (zQi G K r h') args s 0 0 (zA G K)) (F0 m 0 ls []) := by
  obtain ⟨hx, hb, hml, hown, hts, hr, hlocks, hK, hST, hNs⟩ := id X
  unfold m_Home_work at hm
  refine lv_iload_n hx hb d_Home_work_0 rfl (lv_at hl 2 rfl) ?_
  refine lv_if_lt (tgt := 9) hx hb d_Home_work_1 (by decide) (fun hc1 => ?_) (fun hc1 => ?_)
  · replace hm := zif_t hc1 hm
    refine lv_iconst (v := (-1 : Int32)) hx hb d_Home_work_9 (by decide) ?_
    obtain ⟨rfl, rfl⟩ := zs2 hm
    exact z_iret X hI d_Home_work_10
  · replace hm := zif_f hc1 hm
    refine lv_iload_n hx hb d_Home_work_4 rfl (lv_at hl 2 rfl) ?_
    refine lv_iconst (v := (nI 1)) hx hb d_Home_work_5 (by decide) ?_
    refine lv_icmp_le (tgt := 11) hx hb d_Home_work_6 (by decide) (fun hc6 => ?_) (fun hc6 => ?_)
    · replace hm := zif_t hc6 hm
      refine lv_aload_n hx hb d_Home_work_11 rfl (lv_at hl 0 rfl) ?_
      refine lv_iload_n hx hb d_Home_work_12 rfl (lv_at hl 1 rfl) ?_
      obtain ⟨v13, h13, hv, hm⟩ := zb2_at hm
      obtain ⟨hq, hv⟩ := zcv_at hv
      refine z_ci hI (z_runV (As := [.int x1]) (rest := []) X hI hl.1 (c_Home_goThrough l G K a0 x1 h _ _ hv) C_Home_146 rfl hq (Nat.le_of_ble_eq_true rfl) ⟨Nat.le_of_ble_eq_true rfl, Nat.le_of_ble_eq_true rfl, Nat.zero_le _, Nat.zero_le _⟩ rfl d_Home_work_13) (fun H locs hI => ?_)
      refine lv_istore_n (lv' := [(3, .int v13), (0, .ref (G.1 a0)), (1, .int x1), (2, .int x2)]) hx hb d_Home_work_16 rfl hl (by decide) rfl (fun ls hl => ?_)
      refine lv_iload_n hx hb d_Home_work_17 rfl (lv_at hl 0 rfl) ?_
      refine lv_if_ge (tgt := 23) hx hb d_Home_work_18 (by decide) (fun hc18 => ?_) (fun hc18 => ?_)
      · replace hm := zif_t hc18 hm
        refine lv_iload_n hx hb d_Home_work_23 rfl (lv_at hl 3 rfl) ?_
        refine lv_if_ne (tgt := 35) hx hb d_Home_work_24 (by decide) (fun hc24 => ?_) (fun hc24 => ?_)
        · replace hm := zif_f hc24 hm
          refine lv_aload_n hx hb d_Home_work_35 rfl (lv_at hl 1 rfl) ?_
          obtain ⟨v36, hv, hm⟩ := zbd hm
          refine z_getR X hI F_Home_41 hv d_Home_work_36 ?_
          refine lv_iconst (v := (nI 0)) hx hb d_Home_work_39 (by decide) ?_
          obtain ⟨h40, hv, hm⟩ := zbd hm
          obtain ⟨hq, hv⟩ := zcv_at hv
          refine z_cv hI (z_runV (As := [.int (nI 0)]) (rest := []) X hI hl.1 (c_Orders_explore l G K v36 (nI 0) h13 _ hv) C_Home_168 rfl hq (Nat.le_of_ble_eq_true rfl) ⟨Nat.le_of_ble_eq_true rfl, Nat.le_of_ble_eq_true rfl, Nat.zero_le _, Nat.zero_le _⟩ rfl d_Home_work_40) (fun H locs hI => ?_)
          refine lv_aload_n hx hb d_Home_work_43 rfl (lv_at hl 1 rfl) ?_
          obtain ⟨v44, hv, hm⟩ := zbd hm
          refine z_getR X hI F_Home_41 hv d_Home_work_44 ?_
          obtain ⟨v47, hv, hm⟩ := zbd hm
          obtain ⟨hq, hv⟩ := zcv_at hv
          refine z_ci hI (z_runV (As := []) (rest := []) X hI hl.1 (c_Orders_isBig l G K v44 h40 _ hv) C_Home_172 rfl hq (Nat.le_of_ble_eq_true rfl) ⟨Nat.le_of_ble_eq_true rfl, Nat.le_of_ble_eq_true rfl, Nat.zero_le _, Nat.zero_le _⟩ rfl d_Home_work_47) (fun H locs hI => ?_)
          refine lv_if_eq (tgt := 56) hx hb d_Home_work_50 (by decide) (fun hc50 => ?_) (fun hc50 => ?_)
          · replace hm := zif_t hc50 hm
            refine lv_aload_n hx hb d_Home_work_56 rfl (lv_at hl 1 rfl) ?_
            obtain ⟨v57, hv, hm⟩ := zbd hm
            refine z_getR X hI F_Home_37 hv d_Home_work_57 ?_
            obtain ⟨v60, hv, hm⟩ := zbd hm
            obtain ⟨hq, hv⟩ := zcv_at hv
            refine z_ci hI (z_runV (As := []) (rest := []) X hI hl.1 (c_Orders_unlikeWorks l G K v57 h40 _ hv) C_Home_165 rfl hq (Nat.le_of_ble_eq_true rfl) ⟨Nat.le_of_ble_eq_true rfl, Nat.le_of_ble_eq_true rfl, Nat.zero_le _, Nat.zero_le _⟩ rfl d_Home_work_60) (fun H locs hI => ?_)
            refine lv_aload_n hx hb d_Home_work_63 rfl (lv_at hl 1 rfl) ?_
            obtain ⟨v64, hv, hm⟩ := zbd hm
            refine z_getR X hI F_Home_41 hv d_Home_work_64 ?_
            obtain ⟨v67, hv, hm⟩ := zbd hm
            obtain ⟨hq, hv⟩ := zcv_at hv
            refine z_ci hI (z_runV (As := []) (rest := [.int v60]) X hI hl.1 (c_Orders_unlikeWorks l G K v64 h40 _ hv) C_Home_165 rfl hq (Nat.le_of_ble_eq_true rfl) ⟨Nat.le_of_ble_eq_true rfl, Nat.le_of_ble_eq_true rfl, Nat.zero_le _, Nat.zero_le _⟩ rfl d_Home_work_67) (fun H locs hI => ?_)
            refine lv_icmp_ne (tgt := 77) hx hb d_Home_work_70 (by decide) (fun hc70 => ?_) (fun hc70 => ?_)
            · replace hm := zif_f hc70 hm
              refine lv_iconst (v := (nI 0)) hx hb d_Home_work_77 (by decide) ?_
              obtain ⟨rfl, rfl⟩ := zs2 hm
              exact z_iret X hI d_Home_work_78
            · replace hm := zif_t hc70 hm
              refine lv_iconst (v := (nI 1)) hx hb d_Home_work_73 (by decide) ?_
              refine lv_goto (tgt := 78) hx hb d_Home_work_74 (by decide) ?_
              obtain ⟨rfl, rfl⟩ := zs2 hm
              exact z_iret X hI d_Home_work_78
          · replace hm := zif_f hc50 hm
            refine lv_bipush (v := (-4 : Int32)) hx hb d_Home_work_53 (by decide) ?_
            obtain ⟨rfl, rfl⟩ := zs2 hm
            exact z_iret X hI d_Home_work_55
        · replace hm := zif_t hc24 hm
          refine lv_aload_n hx hb d_Home_work_27 rfl (lv_at hl 1 rfl) ?_
          obtain ⟨v28, hv, hm⟩ := zbd hm
          refine z_getR X hI F_Home_37 hv d_Home_work_28 ?_
          obtain ⟨v31, hv, hm⟩ := zbd hm
          obtain ⟨hq, hv⟩ := zcv_at hv
          refine z_ci hI (z_runV (As := []) (rest := []) X hI hl.1 (c_Orders_unlikeWorks l G K v28 h13 _ hv) C_Home_165 rfl hq (Nat.le_of_ble_eq_true rfl) ⟨Nat.le_of_ble_eq_true rfl, Nat.le_of_ble_eq_true rfl, Nat.zero_le _, Nat.zero_le _⟩ rfl d_Home_work_31) (fun H locs hI => ?_)
          obtain ⟨rfl, rfl⟩ := zs2 hm
          exact z_iret X hI d_Home_work_34
      · replace hm := zif_f hc18 hm
        refine lv_iload_n hx hb d_Home_work_21 rfl (lv_at hl 0 rfl) ?_
        obtain ⟨rfl, rfl⟩ := zs2 hm
        exact z_iret X hI d_Home_work_22
    · replace hm := zif_f hc6 hm
      refine lv_iconst (v := (-1 : Int32)) hx hb d_Home_work_9 (by decide) ?_
      obtain ⟨rfl, rfl⟩ := zs2 hm
      exact z_iret X hI d_Home_work_10
set_option maxHeartbeats 4000000 in
set_option maxRecDepth 100000 in
theorem c_Home_work (l : Launch) (G : zG) (K : Nat) (a0 : Nat) (x1 : Int32) (x2 : Int32) (h : zH) (r : Int32) (h' : zH) (hm : m_Home_work a0 x1 x2 h = some (r, h')) : zMi l G K y_Home_work prog_1_method_19_code 4 7 [.ref (G.1 a0), .int x1, .int x2] h r h' := zMet (by decide +kernel) (Nat.le_of_ble_eq_true rfl) (fun p e s m below meth c ls X hI hl => r_Home_work_0 X a0 x1 x2 h hm hI hl)
-- walk of AllHome$Acts.clear
theorem d_Acts_clear_0 : decode prog_2_method_2_code 0 = .ok (.aload_n 0, 1) := by decide +kernel
theorem d_Acts_clear_1 : decode prog_2_method_2_code 1 = .ok (.iconst 0, 1) := by decide +kernel
theorem d_Acts_clear_2 : decode prog_2_method_2_code 2 = .ok (.putfield 15, 3) := by decide +kernel
theorem d_Acts_clear_5 : decode prog_2_method_2_code 5 = .ok (.return_, 1) := by decide +kernel
set_option maxHeartbeats 4000000 in
set_option maxRecDepth 100000 in
theorem r_Acts_clear_0 {p : Program} {l : Launch} {e : Env} {s : State} {m : MethodId} {args : Array Value} {below : List Frame} {meth : Method} {c : Code} {G : zG} {K : Nat} (X : zX p s m args meth c "AllHome$Acts" prog_2_method_2_code 1 none G (zA G K)) {h' : zH} (a0 : Nat) (h : zH) (hm : m_Acts_clear a0 h = some h') {H : Heap} {locs : List Loc} {ls : Array Slot} (hI : zI G K s (zA G K) H locs h) (hl : lv_has ls 1 [(0, .ref (G.1 a0))]) : W p l e (zR 0) s m args below meth c H locs 0 0 (MQ below (zQv G K h') args s 0 0 (zA G K)) (F0 m 0 ls []) := by
  obtain ⟨hx, hb, hml, hown, hts, hr, hlocks, hK, hST, hNs⟩ := id X
  unfold m_Acts_clear at hm
  refine lv_aload_n hx hb d_Acts_clear_0 rfl (lv_at hl 0 rfl) ?_
  refine lv_iconst (v := (nI 0)) hx hb d_Acts_clear_1 (by decide) ?_
  obtain ⟨h2, hv, hm⟩ := zbd hm
  refine z_putI X hI P_Acts_15 hv d_Acts_clear_2 (fun H locs hI => ?_)
  obtain rfl := zs1 hm
  exact z_vret X hI d_Acts_clear_5
set_option maxHeartbeats 4000000 in
set_option maxRecDepth 100000 in
theorem c_Acts_clear (l : Launch) (G : zG) (K : Nat) (a0 : Nat) (h : zH) (h' : zH) (hm : m_Acts_clear a0 h = some h') : zMv l G K y_Acts_clear prog_2_method_2_code 1 0 [.ref (G.1 a0)] h h' := zMet (by decide +kernel) (Nat.le_of_ble_eq_true rfl) (fun p e s m below meth c ls X hI hl => r_Acts_clear_0 X a0 h hm hI hl)
-- walk of AllHome$Acts.bodyOf
theorem d_Acts_bodyOf_0 : decode prog_2_method_7_code 0 = .ok (.iload_n 0, 1) := by decide +kernel
theorem d_Acts_bodyOf_1 : decode prog_2_method_7_code 1 = .ok (.invokestatic 33, 3) := by decide +kernel
theorem d_Acts_bodyOf_4 : decode prog_2_method_7_code 4 = .ok (.ifCond .eq 12, 3) := by decide +kernel
theorem d_Acts_bodyOf_7 : decode prog_2_method_7_code 7 = .ok (.iload_n 1, 1) := by decide +kernel
theorem d_Acts_bodyOf_8 : decode prog_2_method_7_code 8 = .ok (.ifCond .lt 8, 3) := by decide +kernel
theorem d_Acts_bodyOf_11 : decode prog_2_method_7_code 11 = .ok (.iload_n 1, 1) := by decide +kernel
theorem d_Acts_bodyOf_12 : decode prog_2_method_7_code 12 = .ok (.iconst 4, 1) := by decide +kernel
theorem d_Acts_bodyOf_13 : decode prog_2_method_7_code 13 = .ok (.if_icmp .lt 5, 3) := by decide +kernel
theorem d_Acts_bodyOf_16 : decode prog_2_method_7_code 16 = .ok (.iconst 0, 1) := by decide +kernel
theorem d_Acts_bodyOf_17 : decode prog_2_method_7_code 17 = .ok (.ireturn, 1) := by decide +kernel
theorem d_Acts_bodyOf_18 : decode prog_2_method_7_code 18 = .ok (.getstatic 44, 3) := by decide +kernel
theorem d_Acts_bodyOf_21 : decode prog_2_method_7_code 21 = .ok (.iload_n 0, 1) := by decide +kernel
theorem d_Acts_bodyOf_22 : decode prog_2_method_7_code 22 = .ok (.iconst 4, 1) := by decide +kernel
theorem d_Acts_bodyOf_23 : decode prog_2_method_7_code 23 = .ok (.imul, 1) := by decide +kernel
theorem d_Acts_bodyOf_24 : decode prog_2_method_7_code 24 = .ok (.iload_n 1, 1) := by decide +kernel
theorem d_Acts_bodyOf_25 : decode prog_2_method_7_code 25 = .ok (.iadd, 1) := by decide +kernel
theorem d_Acts_bodyOf_26 : decode prog_2_method_7_code 26 = .ok (.iaload, 1) := by decide +kernel
theorem d_Acts_bodyOf_27 : decode prog_2_method_7_code 27 = .ok (.ireturn, 1) := by decide +kernel
set_option maxHeartbeats 4000000 in
set_option maxRecDepth 100000 in
theorem r_Acts_bodyOf_0 {p : Program} {l : Launch} {e : Env} {s : State} {m : MethodId} {args : Array Value} {below : List Frame} {meth : Method} {c : Code} {G : zG} {K : Nat} (X : zX p s m args meth c "AllHome$Acts" prog_2_method_7_code 2 (some .int) G (zA G K)) {r : Int32} (x0 : Int32) (x1 : Int32) (h : zH) (hm : m_Acts_bodyOf x0 x1 h = some r) {H : Heap} {locs : List Loc} {ls : Array Slot} (hI : zI G K s (zA G K) H locs h) (hl : lv_has ls 2 [(0, .int x0), (1, .int x1)]) : W p l e (zR 1) s m args below meth c H locs 0 0 (MQ below (zQi G K r h) args s 0 0 (zA G K)) (F0 m 0 ls []) := by
  obtain ⟨hx, hb, hml, hown, hts, hr, hlocks, hK, hST, hNs⟩ := id X
  unfold m_Acts_bodyOf at hm
  refine lv_iload_n hx hb d_Acts_bodyOf_0 rfl (lv_at hl 0 rfl) ?_
  obtain ⟨v1, hv, hm⟩ := zbd hm
  refine z_ci hI (z_runN (As := [.int x0]) (rest := []) X hI hl.1 (c_Home_isKind l G K x0 h _ hv) C_Acts_33 rfl (Nat.le_of_ble_eq_true rfl) ⟨Nat.le_of_ble_eq_true rfl, Nat.le_of_ble_eq_true rfl, Nat.zero_le _, Nat.zero_le _⟩ rfl d_Acts_bodyOf_1) (fun H locs hI => ?_)
  refine lv_if_eq (tgt := 16) hx hb d_Acts_bodyOf_4 (by decide) (fun hc4 => ?_) (fun hc4 => ?_)
  · replace hm := zif_t hc4 hm
    refine lv_iconst (v := (nI 0)) hx hb d_Acts_bodyOf_16 (by decide) ?_
    obtain rfl := zs1 hm
    exact z_iret X hI d_Acts_bodyOf_17
  · replace hm := zif_f hc4 hm
    refine lv_iload_n hx hb d_Acts_bodyOf_7 rfl (lv_at hl 1 rfl) ?_
    refine lv_if_lt (tgt := 16) hx hb d_Acts_bodyOf_8 (by decide) (fun hc8 => ?_) (fun hc8 => ?_)
    · replace hm := zif_t hc8 hm
      refine lv_iconst (v := (nI 0)) hx hb d_Acts_bodyOf_16 (by decide) ?_
      obtain rfl := zs1 hm
      exact z_iret X hI d_Acts_bodyOf_17
    · replace hm := zif_f hc8 hm
      refine lv_iload_n hx hb d_Acts_bodyOf_11 rfl (lv_at hl 1 rfl) ?_
      refine lv_iconst (v := (nI 4)) hx hb d_Acts_bodyOf_12 (by decide) ?_
      refine lv_icmp_lt (tgt := 18) hx hb d_Acts_bodyOf_13 (by decide) (fun hc13 => ?_) (fun hc13 => ?_)
      · replace hm := zif_t hc13 hm
        refine z_gets X hI 4 (by decide) kw569 d_Acts_bodyOf_18 ?_
        refine lv_iload_n hx hb d_Acts_bodyOf_21 rfl (lv_at hl 0 rfl) ?_
        refine lv_iconst (v := (nI 4)) hx hb d_Acts_bodyOf_22 (by decide) ?_
        refine lv_imul hx hb d_Acts_bodyOf_23 ?_
        refine lv_iload_n hx hb d_Acts_bodyOf_24 rfl (lv_at hl 1 rfl) ?_
        refine lv_iadd hx hb d_Acts_bodyOf_25 ?_
        obtain ⟨v26, hv, hm⟩ := zbd hm
        refine z_tab X hI 4 (by decide) hv d_Acts_bodyOf_26 ?_
        obtain rfl := zs1 hm
        exact z_iret X hI d_Acts_bodyOf_27
      · replace hm := zif_f hc13 hm
        refine lv_iconst (v := (nI 0)) hx hb d_Acts_bodyOf_16 (by decide) ?_
        obtain rfl := zs1 hm
        exact z_iret X hI d_Acts_bodyOf_17
set_option maxHeartbeats 4000000 in
set_option maxRecDepth 100000 in
theorem c_Acts_bodyOf (l : Launch) (G : zG) (K : Nat) (x0 : Int32) (x1 : Int32) (h : zH) (r : Int32) (hm : m_Acts_bodyOf x0 x1 h = some r) : zMi l G K y_Acts_bodyOf prog_2_method_7_code 2 1 [.int x0, .int x1] h r h := zMet (by decide +kernel) (Nat.le_of_ble_eq_true rfl) (fun p e s m below meth c ls X hI hl => r_Acts_bodyOf_0 X x0 x1 h hm hI hl)
-- walk of AllHome$Acts.begun
theorem d_Acts_begun_0 : decode prog_2_method_8_code 0 = .ok (.aload_n 0, 1) := by decide +kernel
theorem d_Acts_begun_1 : decode prog_2_method_8_code 1 = .ok (.getfield 15, 3) := by decide +kernel
theorem d_Acts_begun_4 : decode prog_2_method_8_code 4 = .ok (.bipush 24, 2) := by decide +kernel
theorem d_Acts_begun_6 : decode prog_2_method_8_code 6 = .ok (.if_icmp .ge 13, 3) := by decide +kernel
theorem d_Acts_begun_9 : decode prog_2_method_8_code 9 = .ok (.aload_n 0, 1) := by decide +kernel
theorem d_Acts_begun_10 : decode prog_2_method_8_code 10 = .ok (.getfield 11, 3) := by decide +kernel
theorem d_Acts_begun_13 : decode prog_2_method_8_code 13 = .ok (.aload_n 0, 1) := by decide +kernel
theorem d_Acts_begun_14 : decode prog_2_method_8_code 14 = .ok (.getfield 15, 3) := by decide +kernel
theorem d_Acts_begun_17 : decode prog_2_method_8_code 17 = .ok (.iload_n 1, 1) := by decide +kernel
theorem d_Acts_begun_18 : decode prog_2_method_8_code 18 = .ok (.iastore, 1) := by decide +kernel
theorem d_Acts_begun_19 : decode prog_2_method_8_code 19 = .ok (.aload_n 0, 1) := by decide +kernel
theorem d_Acts_begun_20 : decode prog_2_method_8_code 20 = .ok (.dup, 1) := by decide +kernel
theorem d_Acts_begun_21 : decode prog_2_method_8_code 21 = .ok (.getfield 15, 3) := by decide +kernel
theorem d_Acts_begun_24 : decode prog_2_method_8_code 24 = .ok (.iconst 1, 1) := by decide +kernel
theorem d_Acts_begun_25 : decode prog_2_method_8_code 25 = .ok (.iadd, 1) := by decide +kernel
theorem d_Acts_begun_26 : decode prog_2_method_8_code 26 = .ok (.putfield 15, 3) := by decide +kernel
theorem d_Acts_begun_29 : decode prog_2_method_8_code 29 = .ok (.return_, 1) := by decide +kernel
set_option maxHeartbeats 4000000 in
set_option maxRecDepth 100000 in
theorem r_Acts_begun_0 {p : Program} {l : Launch} {e : Env} {s : State} {m : MethodId} {args : Array Value} {below : List Frame} {meth : Method} {c : Code} {G : zG} {K : Nat} (X : zX p s m args meth c "AllHome$Acts" prog_2_method_8_code 2 none G (zA G K)) {h' : zH} (a0 : Nat) (x1 : Int32) (h : zH) (hm : m_Acts_begun a0 x1 h = some h') {H : Heap} {locs : List Loc} {ls : Array Slot} (hI : zI G K s (zA G K) H locs h) (hl : lv_has ls 2 [(0, .ref (G.1 a0)), (1, .int x1)]) : W p l e (zR 0) s m args below meth c H locs 0 0 (MQ below (zQv G K h') args s 0 0 (zA G K)) (F0 m 0 ls []) := by
  obtain ⟨hx, hb, hml, hown, hts, hr, hlocks, hK, hST, hNs⟩ := id X
  unfold m_Acts_begun at hm
  refine lv_aload_n hx hb d_Acts_begun_0 rfl (lv_at hl 0 rfl) ?_
  obtain ⟨v1, hv, hm⟩ := zbd hm
  refine z_getI X hI F_Acts_15 hv d_Acts_begun_1 ?_
  refine lv_bipush (v := (nI 24)) hx hb d_Acts_begun_4 (by decide) ?_
  refine lv_icmp_ge (tgt := 19) hx hb d_Acts_begun_6 (by decide) (fun hc6 => ?_) (fun hc6 => ?_)
  · replace hm := zif_t hc6 hm
    refine lv_aload_n hx hb d_Acts_begun_19 rfl (lv_at hl 0 rfl) ?_
    refine lv_dup hx hb d_Acts_begun_20 rfl ?_
    obtain ⟨v21, hv, hm⟩ := zbd hm
    refine z_getI X hI F_Acts_15 hv d_Acts_begun_21 ?_
    refine lv_iconst (v := (nI 1)) hx hb d_Acts_begun_24 (by decide) ?_
    refine lv_iadd hx hb d_Acts_begun_25 ?_
    obtain ⟨h26, hv, hm⟩ := zbd hm
    refine z_putI X hI P_Acts_15 hv d_Acts_begun_26 (fun H locs hI => ?_)
    obtain rfl := zs1 hm
    exact z_vret X hI d_Acts_begun_29
  · replace hm := zif_f hc6 hm
    refine lv_aload_n hx hb d_Acts_begun_9 rfl (lv_at hl 0 rfl) ?_
    obtain ⟨v10, hv, hm⟩ := zbd hm
    refine z_getR X hI F_Acts_11 hv d_Acts_begun_10 ?_
    refine lv_aload_n hx hb d_Acts_begun_13 rfl (lv_at hl 0 rfl) ?_
    obtain ⟨v14, hv, hm⟩ := zbd hm
    refine z_getI X hI F_Acts_15 hv d_Acts_begun_14 ?_
    refine lv_iload_n hx hb d_Acts_begun_17 rfl (lv_at hl 1 rfl) ?_
    obtain ⟨h18, hv, hm⟩ := zbd hm
    refine z_iast X hI hv d_Acts_begun_18 (fun H locs hI => ?_)
    refine lv_aload_n hx hb d_Acts_begun_19 rfl (lv_at hl 0 rfl) ?_
    refine lv_dup hx hb d_Acts_begun_20 rfl ?_
    obtain ⟨v21, hv, hm⟩ := zbd hm
    refine z_getI X hI F_Acts_15 hv d_Acts_begun_21 ?_
    refine lv_iconst (v := (nI 1)) hx hb d_Acts_begun_24 (by decide) ?_
    refine lv_iadd hx hb d_Acts_begun_25 ?_
    obtain ⟨h26, hv, hm⟩ := zbd hm
    refine z_putI X hI P_Acts_15 hv d_Acts_begun_26 (fun H locs hI => ?_)
    obtain rfl := zs1 hm
    exact z_vret X hI d_Acts_begun_29
set_option maxHeartbeats 4000000 in
set_option maxRecDepth 100000 in
theorem c_Acts_begun (l : Launch) (G : zG) (K : Nat) (a0 : Nat) (x1 : Int32) (h : zH) (h' : zH) (hm : m_Acts_begun a0 x1 h = some h') : zMv l G K y_Acts_begun prog_2_method_8_code 2 0 [.ref (G.1 a0), .int x1] h h' := zMet (by decide +kernel) (Nat.le_of_ble_eq_true rfl) (fun p e s m below meth c ls X hI hl => r_Acts_begun_0 X a0 x1 h hm hI hl)
-- walk of AllHome$Acts.perform
theorem d_Acts_perform_0 : decode prog_2_method_6_code 0 = .ok (.iload_n 1, 1) := by decide +kernel
theorem d_Acts_perform_1 : decode prog_2_method_6_code 1 = .ok (.istore 5, 2) := by decide +kernel
theorem d_Acts_perform_3 : decode prog_2_method_6_code 3 = .ok (.iconst 0, 1) := by decide +kernel
theorem d_Acts_perform_4 : decode prog_2_method_6_code 4 = .ok (.istore 6, 2) := by decide +kernel
theorem d_Acts_perform_6 : decode prog_2_method_6_code 6 = .ok (.iload 6, 2) := by decide +kernel
theorem d_Acts_perform_8 : decode prog_2_method_6_code 8 = .ok (.bipush 9, 2) := by decide +kernel
theorem d_Acts_perform_10 : decode prog_2_method_6_code 10 = .ok (.if_icmp .ge 38, 3) := by decide +kernel
theorem d_Acts_perform_13 : decode prog_2_method_6_code 13 = .ok (.iload 5, 2) := by decide +kernel
theorem d_Acts_perform_15 : decode prog_2_method_6_code 15 = .ok (.iload_n 2, 1) := by decide +kernel
theorem d_Acts_perform_16 : decode prog_2_method_6_code 16 = .ok (.invokestatic 29, 3) := by decide +kernel
theorem d_Acts_perform_19 : decode prog_2_method_6_code 19 = .ok (.ifCond .ne 29, 3) := by decide +kernel
theorem d_Acts_perform_22 : decode prog_2_method_6_code 22 = .ok (.iload 5, 2) := by decide +kernel
theorem d_Acts_perform_24 : decode prog_2_method_6_code 24 = .ok (.invokestatic 33, 3) := by decide +kernel
theorem d_Acts_perform_27 : decode prog_2_method_6_code 27 = .ok (.ifCond .eq 12, 3) := by decide +kernel
theorem d_Acts_perform_30 : decode prog_2_method_6_code 30 = .ok (.getstatic 37, 3) := by decide +kernel
theorem d_Acts_perform_33 : decode prog_2_method_6_code 33 = .ok (.iload 5, 2) := by decide +kernel
theorem d_Acts_perform_35 : decode prog_2_method_6_code 35 = .ok (.iaload, 1) := by decide +kernel
theorem d_Acts_perform_36 : decode prog_2_method_6_code 36 = .ok (.goto 4, 3) := by decide +kernel
theorem d_Acts_perform_39 : decode prog_2_method_6_code 39 = .ok (.iconst (-1), 1) := by decide +kernel
theorem d_Acts_perform_40 : decode prog_2_method_6_code 40 = .ok (.istore 5, 2) := by decide +kernel
theorem d_Acts_perform_42 : decode prog_2_method_6_code 42 = .ok (.iinc 6 1, 3) := by decide +kernel
theorem d_Acts_perform_45 : decode prog_2_method_6_code 45 = .ok (.goto (-39), 3) := by decide +kernel
theorem d_Acts_perform_48 : decode prog_2_method_6_code 48 = .ok (.iload 5, 2) := by decide +kernel
theorem d_Acts_perform_50 : decode prog_2_method_6_code 50 = .ok (.iload_n 2, 1) := by decide +kernel
theorem d_Acts_perform_51 : decode prog_2_method_6_code 51 = .ok (.invokestatic 29, 3) := by decide +kernel
theorem d_Acts_perform_54 : decode prog_2_method_6_code 54 = .ok (.istore 6, 2) := by decide +kernel
theorem d_Acts_perform_56 : decode prog_2_method_6_code 56 = .ok (.iload 6, 2) := by decide +kernel
theorem d_Acts_perform_58 : decode prog_2_method_6_code 58 = .ok (.ifCond .eq 18, 3) := by decide +kernel
theorem d_Acts_perform_61 : decode prog_2_method_6_code 61 = .ok (.iload 5, 2) := by decide +kernel
theorem d_Acts_perform_63 : decode prog_2_method_6_code 63 = .ok (.invokestatic 33, 3) := by decide +kernel
theorem d_Acts_perform_66 : decode prog_2_method_6_code 66 = .ok (.ifCond .eq 10, 3) := by decide +kernel
theorem d_Acts_perform_69 : decode prog_2_method_6_code 69 = .ok (.iload 4, 2) := by decide +kernel
theorem d_Acts_perform_71 : decode prog_2_method_6_code 71 = .ok (.bipush 30, 2) := by decide +kernel
theorem d_Acts_perform_73 : decode prog_2_method_6_code 73 = .ok (.if_icmp .le 5, 3) := by decide +kernel
theorem d_Acts_perform_76 : decode prog_2_method_6_code 76 = .ok (.iconst 0, 1) := by decide +kernel
theorem d_Acts_perform_77 : decode prog_2_method_6_code 77 = .ok (.ireturn, 1) := by decide +kernel
theorem d_Acts_perform_78 : decode prog_2_method_6_code 78 = .ok (.aload_n 0, 1) := by decide +kernel
theorem d_Acts_perform_79 : decode prog_2_method_6_code 79 = .ok (.iload 6, 2) := by decide +kernel
theorem d_Acts_perform_81 : decode prog_2_method_6_code 81 = .ok (.invokevirtual 40, 3) := by decide +kernel
theorem d_Acts_perform_84 : decode prog_2_method_6_code 84 = .ok (.getstatic 37, 3) := by decide +kernel
theorem d_Acts_perform_87 : decode prog_2_method_6_code 87 = .ok (.iload 5, 2) := by decide +kernel
theorem d_Acts_perform_89 : decode prog_2_method_6_code 89 = .ok (.iaload, 1) := by decide +kernel
theorem d_Acts_perform_90 : decode prog_2_method_6_code 90 = .ok (.istore 7, 2) := by decide +kernel
theorem d_Acts_perform_92 : decode prog_2_method_6_code 92 = .ok (.iload 4, 2) := by decide +kernel
theorem d_Acts_perform_94 : decode prog_2_method_6_code 94 = .ok (.iconst 1, 1) := by decide +kernel
theorem d_Acts_perform_95 : decode prog_2_method_6_code 95 = .ok (.iadd, 1) := by decide +kernel
theorem d_Acts_perform_96 : decode prog_2_method_6_code 96 = .ok (.istore 8, 2) := by decide +kernel
theorem d_Acts_perform_98 : decode prog_2_method_6_code 98 = .ok (.iload 6, 2) := by decide +kernel
theorem d_Acts_perform_100 : decode prog_2_method_6_code 100 = .ok (.lookupswitch 307 #[(1, 116), (2, 123), (10, 149), (11, 164), (20, 171), (30, 184), (40, 208), (50, 221), (60, 234), (61, 247), (70, 260), (80, 272), (90, 294)], 116) := by decide +kernel
theorem d_Acts_perform_216 : decode prog_2_method_6_code 216 = .ok (.iload_n 3, 1) := by decide +kernel
theorem d_Acts_perform_217 : decode prog_2_method_6_code 217 = .ok (.aload_n 0, 1) := by decide +kernel
theorem d_Acts_perform_218 : decode prog_2_method_6_code 218 = .ok (.getfield 22, 3) := by decide +kernel
theorem d_Acts_perform_221 : decode prog_2_method_6_code 221 = .ok (.iadd, 1) := by decide +kernel
theorem d_Acts_perform_222 : decode prog_2_method_6_code 222 = .ok (.ireturn, 1) := by decide +kernel
theorem d_Acts_perform_223 : decode prog_2_method_6_code 223 = .ok (.aload_n 0, 1) := by decide +kernel
theorem d_Acts_perform_224 : decode prog_2_method_6_code 224 = .ok (.aload_n 0, 1) := by decide +kernel
theorem d_Acts_perform_225 : decode prog_2_method_6_code 225 = .ok (.getfield 19, 3) := by decide +kernel
theorem d_Acts_perform_228 : decode prog_2_method_6_code 228 = .ok (.iconst 1, 1) := by decide +kernel
theorem d_Acts_perform_229 : decode prog_2_method_6_code 229 = .ok (.iload_n 3, 1) := by decide +kernel
theorem d_Acts_perform_230 : decode prog_2_method_6_code 230 = .ok (.iload 8, 2) := by decide +kernel
theorem d_Acts_perform_232 : decode prog_2_method_6_code 232 = .ok (.invokevirtual 25, 3) := by decide +kernel
theorem d_Acts_perform_235 : decode prog_2_method_6_code 235 = .ok (.aload_n 0, 1) := by decide +kernel
theorem d_Acts_perform_236 : decode prog_2_method_6_code 236 = .ok (.aload_n 0, 1) := by decide +kernel
theorem d_Acts_perform_237 : decode prog_2_method_6_code 237 = .ok (.getfield 19, 3) := by decide +kernel
theorem d_Acts_perform_240 : decode prog_2_method_6_code 240 = .ok (.iconst 2, 1) := by decide +kernel
theorem d_Acts_perform_241 : decode prog_2_method_6_code 241 = .ok (.iconst 1, 1) := by decide +kernel
theorem d_Acts_perform_242 : decode prog_2_method_6_code 242 = .ok (.iload 8, 2) := by decide +kernel
theorem d_Acts_perform_244 : decode prog_2_method_6_code 244 = .ok (.invokevirtual 25, 3) := by decide +kernel
theorem d_Acts_perform_247 : decode prog_2_method_6_code 247 = .ok (.isub, 1) := by decide +kernel
theorem d_Acts_perform_248 : decode prog_2_method_6_code 248 = .ok (.ireturn, 1) := by decide +kernel
theorem d_Acts_perform_249 : decode prog_2_method_6_code 249 = .ok (.aload_n 0, 1) := by decide +kernel
theorem d_Acts_perform_250 : decode prog_2_method_6_code 250 = .ok (.aload_n 0, 1) := by decide +kernel
theorem d_Acts_perform_251 : decode prog_2_method_6_code 251 = .ok (.getfield 19, 3) := by decide +kernel
theorem d_Acts_perform_254 : decode prog_2_method_6_code 254 = .ok (.iconst 0, 1) := by decide +kernel
theorem d_Acts_perform_255 : decode prog_2_method_6_code 255 = .ok (.iload_n 3, 1) := by decide +kernel
theorem d_Acts_perform_256 : decode prog_2_method_6_code 256 = .ok (.iload 8, 2) := by decide +kernel
theorem d_Acts_perform_258 : decode prog_2_method_6_code 258 = .ok (.invokevirtual 25, 3) := by decide +kernel
theorem d_Acts_perform_261 : decode prog_2_method_6_code 261 = .ok (.iconst 2, 1) := by decide +kernel
theorem d_Acts_perform_262 : decode prog_2_method_6_code 262 = .ok (.imul, 1) := by decide +kernel
theorem d_Acts_perform_263 : decode prog_2_method_6_code 263 = .ok (.ireturn, 1) := by decide +kernel
theorem d_Acts_perform_264 : decode prog_2_method_6_code 264 = .ok (.iload_n 3, 1) := by decide +kernel
theorem d_Acts_perform_265 : decode prog_2_method_6_code 265 = .ok (.aload_n 0, 1) := by decide +kernel
theorem d_Acts_perform_266 : decode prog_2_method_6_code 266 = .ok (.getfield 22, 3) := by decide +kernel
theorem d_Acts_perform_269 : decode prog_2_method_6_code 269 = .ok (.ixor, 1) := by decide +kernel
theorem d_Acts_perform_270 : decode prog_2_method_6_code 270 = .ok (.ireturn, 1) := by decide +kernel
theorem d_Acts_perform_271 : decode prog_2_method_6_code 271 = .ok (.aload_n 0, 1) := by decide +kernel
theorem d_Acts_perform_272 : decode prog_2_method_6_code 272 = .ok (.iload 7, 2) := by decide +kernel
theorem d_Acts_perform_274 : decode prog_2_method_6_code 274 = .ok (.iconst 0, 1) := by decide +kernel
theorem d_Acts_perform_275 : decode prog_2_method_6_code 275 = .ok (.iload_n 3, 1) := by decide +kernel
theorem d_Acts_perform_276 : decode prog_2_method_6_code 276 = .ok (.iload 8, 2) := by decide +kernel
theorem d_Acts_perform_278 : decode prog_2_method_6_code 278 = .ok (.invokevirtual 25, 3) := by decide +kernel
theorem d_Acts_perform_281 : decode prog_2_method_6_code 281 = .ok (.iconst 2, 1) := by decide +kernel
theorem d_Acts_perform_282 : decode prog_2_method_6_code 282 = .ok (.idiv, 1) := by decide +kernel
theorem d_Acts_perform_283 : decode prog_2_method_6_code 283 = .ok (.ireturn, 1) := by decide +kernel
theorem d_Acts_perform_284 : decode prog_2_method_6_code 284 = .ok (.aload_n 0, 1) := by decide +kernel
theorem d_Acts_perform_285 : decode prog_2_method_6_code 285 = .ok (.iload 7, 2) := by decide +kernel
theorem d_Acts_perform_287 : decode prog_2_method_6_code 287 = .ok (.iconst 2, 1) := by decide +kernel
theorem d_Acts_perform_288 : decode prog_2_method_6_code 288 = .ok (.iload_n 3, 1) := by decide +kernel
theorem d_Acts_perform_289 : decode prog_2_method_6_code 289 = .ok (.iload 8, 2) := by decide +kernel
theorem d_Acts_perform_291 : decode prog_2_method_6_code 291 = .ok (.invokevirtual 25, 3) := by decide +kernel
theorem d_Acts_perform_294 : decode prog_2_method_6_code 294 = .ok (.aload_n 0, 1) := by decide +kernel
theorem d_Acts_perform_295 : decode prog_2_method_6_code 295 = .ok (.aload_n 0, 1) := by decide +kernel
theorem d_Acts_perform_296 : decode prog_2_method_6_code 296 = .ok (.getfield 19, 3) := by decide +kernel
theorem d_Acts_perform_299 : decode prog_2_method_6_code 299 = .ok (.iconst 0, 1) := by decide +kernel
theorem d_Acts_perform_300 : decode prog_2_method_6_code 300 = .ok (.iconst 2, 1) := by decide +kernel
theorem d_Acts_perform_301 : decode prog_2_method_6_code 301 = .ok (.iload 8, 2) := by decide +kernel
theorem d_Acts_perform_303 : decode prog_2_method_6_code 303 = .ok (.invokevirtual 25, 3) := by decide +kernel
theorem d_Acts_perform_306 : decode prog_2_method_6_code 306 = .ok (.iadd, 1) := by decide +kernel
theorem d_Acts_perform_307 : decode prog_2_method_6_code 307 = .ok (.ireturn, 1) := by decide +kernel
theorem d_Acts_perform_308 : decode prog_2_method_6_code 308 = .ok (.aload_n 0, 1) := by decide +kernel
theorem d_Acts_perform_309 : decode prog_2_method_6_code 309 = .ok (.iload 7, 2) := by decide +kernel
theorem d_Acts_perform_311 : decode prog_2_method_6_code 311 = .ok (.iconst 1, 1) := by decide +kernel
theorem d_Acts_perform_312 : decode prog_2_method_6_code 312 = .ok (.iload_n 3, 1) := by decide +kernel
theorem d_Acts_perform_313 : decode prog_2_method_6_code 313 = .ok (.iload 8, 2) := by decide +kernel
theorem d_Acts_perform_315 : decode prog_2_method_6_code 315 = .ok (.invokevirtual 25, 3) := by decide +kernel
theorem d_Acts_perform_318 : decode prog_2_method_6_code 318 = .ok (.iconst 1, 1) := by decide +kernel
theorem d_Acts_perform_319 : decode prog_2_method_6_code 319 = .ok (.isub, 1) := by decide +kernel
theorem d_Acts_perform_320 : decode prog_2_method_6_code 320 = .ok (.ireturn, 1) := by decide +kernel
theorem d_Acts_perform_321 : decode prog_2_method_6_code 321 = .ok (.aload_n 0, 1) := by decide +kernel
theorem d_Acts_perform_322 : decode prog_2_method_6_code 322 = .ok (.iload 7, 2) := by decide +kernel
theorem d_Acts_perform_324 : decode prog_2_method_6_code 324 = .ok (.iconst 0, 1) := by decide +kernel
theorem d_Acts_perform_325 : decode prog_2_method_6_code 325 = .ok (.iload_n 3, 1) := by decide +kernel
theorem d_Acts_perform_326 : decode prog_2_method_6_code 326 = .ok (.iload 8, 2) := by decide +kernel
theorem d_Acts_perform_328 : decode prog_2_method_6_code 328 = .ok (.invokevirtual 25, 3) := by decide +kernel
theorem d_Acts_perform_331 : decode prog_2_method_6_code 331 = .ok (.iconst 3, 1) := by decide +kernel
theorem d_Acts_perform_332 : decode prog_2_method_6_code 332 = .ok (.imul, 1) := by decide +kernel
theorem d_Acts_perform_333 : decode prog_2_method_6_code 333 = .ok (.ireturn, 1) := by decide +kernel
theorem d_Acts_perform_334 : decode prog_2_method_6_code 334 = .ok (.aload_n 0, 1) := by decide +kernel
theorem d_Acts_perform_335 : decode prog_2_method_6_code 335 = .ok (.iload 7, 2) := by decide +kernel
theorem d_Acts_perform_337 : decode prog_2_method_6_code 337 = .ok (.iconst 3, 1) := by decide +kernel
theorem d_Acts_perform_338 : decode prog_2_method_6_code 338 = .ok (.iload_n 3, 1) := by decide +kernel
theorem d_Acts_perform_339 : decode prog_2_method_6_code 339 = .ok (.iload 8, 2) := by decide +kernel
theorem d_Acts_perform_341 : decode prog_2_method_6_code 341 = .ok (.invokevirtual 25, 3) := by decide +kernel
theorem d_Acts_perform_344 : decode prog_2_method_6_code 344 = .ok (.iconst 5, 1) := by decide +kernel
theorem d_Acts_perform_345 : decode prog_2_method_6_code 345 = .ok (.ixor, 1) := by decide +kernel
theorem d_Acts_perform_346 : decode prog_2_method_6_code 346 = .ok (.ireturn, 1) := by decide +kernel
theorem d_Acts_perform_347 : decode prog_2_method_6_code 347 = .ok (.aload_n 0, 1) := by decide +kernel
theorem d_Acts_perform_348 : decode prog_2_method_6_code 348 = .ok (.iload 7, 2) := by decide +kernel
theorem d_Acts_perform_350 : decode prog_2_method_6_code 350 = .ok (.iconst 2, 1) := by decide +kernel
theorem d_Acts_perform_351 : decode prog_2_method_6_code 351 = .ok (.iload_n 3, 1) := by decide +kernel
theorem d_Acts_perform_352 : decode prog_2_method_6_code 352 = .ok (.iconst 1, 1) := by decide +kernel
theorem d_Acts_perform_353 : decode prog_2_method_6_code 353 = .ok (.iadd, 1) := by decide +kernel
theorem d_Acts_perform_354 : decode prog_2_method_6_code 354 = .ok (.iload 8, 2) := by decide +kernel
theorem d_Acts_perform_356 : decode prog_2_method_6_code 356 = .ok (.invokevirtual 25, 3) := by decide +kernel
theorem d_Acts_perform_359 : decode prog_2_method_6_code 359 = .ok (.ireturn, 1) := by decide +kernel
theorem d_Acts_perform_360 : decode prog_2_method_6_code 360 = .ok (.aload_n 0, 1) := by decide +kernel
theorem d_Acts_perform_361 : decode prog_2_method_6_code 361 = .ok (.iload 7, 2) := by decide +kernel
theorem d_Acts_perform_363 : decode prog_2_method_6_code 363 = .ok (.iconst 2, 1) := by decide +kernel
theorem d_Acts_perform_364 : decode prog_2_method_6_code 364 = .ok (.iload_n 3, 1) := by decide +kernel
theorem d_Acts_perform_365 : decode prog_2_method_6_code 365 = .ok (.iload 8, 2) := by decide +kernel
theorem d_Acts_perform_367 : decode prog_2_method_6_code 367 = .ok (.invokevirtual 25, 3) := by decide +kernel
theorem d_Acts_perform_370 : decode prog_2_method_6_code 370 = .ok (.ineg, 1) := by decide +kernel
theorem d_Acts_perform_371 : decode prog_2_method_6_code 371 = .ok (.ireturn, 1) := by decide +kernel
theorem d_Acts_perform_372 : decode prog_2_method_6_code 372 = .ok (.aload_n 0, 1) := by decide +kernel
theorem d_Acts_perform_373 : decode prog_2_method_6_code 373 = .ok (.iload 7, 2) := by decide +kernel
theorem d_Acts_perform_375 : decode prog_2_method_6_code 375 = .ok (.iconst 1, 1) := by decide +kernel
theorem d_Acts_perform_376 : decode prog_2_method_6_code 376 = .ok (.iload_n 3, 1) := by decide +kernel
theorem d_Acts_perform_377 : decode prog_2_method_6_code 377 = .ok (.iload 8, 2) := by decide +kernel
theorem d_Acts_perform_379 : decode prog_2_method_6_code 379 = .ok (.invokevirtual 25, 3) := by decide +kernel
theorem d_Acts_perform_382 : decode prog_2_method_6_code 382 = .ok (.aload_n 0, 1) := by decide +kernel
theorem d_Acts_perform_383 : decode prog_2_method_6_code 383 = .ok (.iload 7, 2) := by decide +kernel
theorem d_Acts_perform_385 : decode prog_2_method_6_code 385 = .ok (.iconst 0, 1) := by decide +kernel
theorem d_Acts_perform_386 : decode prog_2_method_6_code 386 = .ok (.iload_n 3, 1) := by decide +kernel
theorem d_Acts_perform_387 : decode prog_2_method_6_code 387 = .ok (.iload 8, 2) := by decide +kernel
theorem d_Acts_perform_389 : decode prog_2_method_6_code 389 = .ok (.invokevirtual 25, 3) := by decide +kernel
theorem d_Acts_perform_392 : decode prog_2_method_6_code 392 = .ok (.iadd, 1) := by decide +kernel
theorem d_Acts_perform_393 : decode prog_2_method_6_code 393 = .ok (.ireturn, 1) := by decide +kernel
theorem d_Acts_perform_394 : decode prog_2_method_6_code 394 = .ok (.aload_n 0, 1) := by decide +kernel
theorem d_Acts_perform_395 : decode prog_2_method_6_code 395 = .ok (.iload 7, 2) := by decide +kernel
theorem d_Acts_perform_397 : decode prog_2_method_6_code 397 = .ok (.iconst 3, 1) := by decide +kernel
theorem d_Acts_perform_398 : decode prog_2_method_6_code 398 = .ok (.iload_n 3, 1) := by decide +kernel
theorem d_Acts_perform_399 : decode prog_2_method_6_code 399 = .ok (.iload 8, 2) := by decide +kernel
theorem d_Acts_perform_401 : decode prog_2_method_6_code 401 = .ok (.invokevirtual 25, 3) := by decide +kernel
theorem d_Acts_perform_404 : decode prog_2_method_6_code 404 = .ok (.iconst 2, 1) := by decide +kernel
theorem d_Acts_perform_405 : decode prog_2_method_6_code 405 = .ok (.imul, 1) := by decide +kernel
theorem d_Acts_perform_406 : decode prog_2_method_6_code 406 = .ok (.ireturn, 1) := by decide +kernel
theorem d_Acts_perform_407 : decode prog_2_method_6_code 407 = .ok (.iconst 0, 1) := by decide +kernel
theorem d_Acts_perform_408 : decode prog_2_method_6_code 408 = .ok (.ireturn, 1) := by decide +kernel
set_option maxHeartbeats 4000000 in
set_option maxRecDepth 100000 in
theorem r_Acts_perform_48 {p : Program} {l : Launch} {e : Env} {s : State} {m : MethodId} {args : Array Value} {below : List Frame} {meth : Method} {c : Code} {G : zG} {K : Nat} {n0 : Nat} (X : zX p s m args meth c "AllHome$Acts" prog_2_method_6_code 9 (some .int) G (zA G K)) {r : Int32} {h' : zH} (a0 : Nat) (x2 : Int32) (x3 : Int32) (x4 : Int32) (x5 : Int32) (h : zH) (kk : (Nat × Int32 × Int32 × Int32 × Int32 × zH) → Option (Int32 × zH)) (hkk : ∀ (w : Nat × Int32 × Int32 × Int32 × Int32 × zH) (r : Int32) (h' : zH), kk w = some (r, h') → zMi l G K y_Acts_perform prog_2_method_6_code 9 (n0 + 2) [.ref (G.1 w.1), .int w.2.1, .int w.2.2.1, .int w.2.2.2.1, .int w.2.2.2.2.1] w.2.2.2.2.2 r h') (hm : g_Acts_perform_48 a0 x2 x3 x4 x5 h kk = some (r, h')) {H : Heap} {locs : List Loc} {ls : Array Slot} (hI : zI G K s (zA G K) H locs h) (hl : lv_has ls 9 [(0, .ref (G.1 a0)), (2, .int x2), (3, .int x3), (4, .int x4), (5, .int x5)]) : W p l e (zR (n0 + 3)) s m args below meth c H locs 0 0 (MQ below (zQi G K r h') args s 0 0 (zA G K)) (F0 m 48 ls []) := by
  obtain ⟨hx, hb, hml, hown, hts, hr, hlocks, hK, hST, hNs⟩ := id X
  unfold g_Acts_perform_48 at hm
  refine lv_iload hx hb d_Acts_perform_48 (lv_at hl 4 rfl) ?_
  refine lv_iload_n hx hb d_Acts_perform_50 rfl (lv_at hl 1 rfl) ?_
  obtain ⟨v51, hv, hm⟩ := zbd hm
  refine z_ci hI (z_runS (As := [.int x5, .int x2]) (rest := []) X hI hl.1 (c_Acts_bodyOf l G K x5 x2 h _ hv) C_Acts_29 rfl (Nat.le_of_ble_eq_true rfl) ⟨by simp only [zR]; omega, by simp only [zR]; omega, Nat.zero_le _, Nat.zero_le _⟩ rfl d_Acts_perform_51) (fun H locs hI => ?_)
  refine lv_istore (lv' := [(6, .int v51), (0, .ref (G.1 a0)), (2, .int x2), (3, .int x3), (4, .int x4), (5, .int x5)]) hx hb d_Acts_perform_54 hl (by decide) rfl (fun ls hl => ?_)
  refine lv_iload hx hb d_Acts_perform_56 (lv_at hl 0 rfl) ?_
  refine lv_if_eq (tgt := 76) hx hb d_Acts_perform_58 (by decide) (fun hc58 => ?_) (fun hc58 => ?_)
  · replace hm := zif_t hc58 hm
    refine lv_iconst (v := (nI 0)) hx hb d_Acts_perform_76 (by decide) ?_
    obtain ⟨rfl, rfl⟩ := zs2 hm
    exact z_iret X hI d_Acts_perform_77
  · replace hm := zif_f hc58 hm
    refine lv_iload hx hb d_Acts_perform_61 (lv_at hl 5 rfl) ?_
    obtain ⟨v63, hv, hm⟩ := zbd hm
    refine z_ci hI (z_runN (As := [.int x5]) (rest := []) X hI hl.1 (c_Home_isKind l G K x5 h _ hv) C_Acts_33 rfl (Nat.le_of_ble_eq_true rfl) ⟨by simp only [zR]; omega, by simp only [zR]; omega, Nat.zero_le _, Nat.zero_le _⟩ rfl d_Acts_perform_63) (fun H locs hI => ?_)
    refine lv_if_eq (tgt := 76) hx hb d_Acts_perform_66 (by decide) (fun hc66 => ?_) (fun hc66 => ?_)
    · replace hm := zif_t hc66 hm
      refine lv_iconst (v := (nI 0)) hx hb d_Acts_perform_76 (by decide) ?_
      obtain ⟨rfl, rfl⟩ := zs2 hm
      exact z_iret X hI d_Acts_perform_77
    · replace hm := zif_f hc66 hm
      refine lv_iload hx hb d_Acts_perform_69 (lv_at hl 4 rfl) ?_
      refine lv_bipush (v := (nI 30)) hx hb d_Acts_perform_71 (by decide) ?_
      refine lv_icmp_le (tgt := 78) hx hb d_Acts_perform_73 (by decide) (fun hc73 => ?_) (fun hc73 => ?_)
      · replace hm := zif_t hc73 hm
        refine lv_aload_n hx hb d_Acts_perform_78 rfl (lv_at hl 1 rfl) ?_
        refine lv_iload hx hb d_Acts_perform_79 (lv_at hl 0 rfl) ?_
        obtain ⟨h81, hv, hm⟩ := zbd hm
        obtain ⟨hq, hv⟩ := zcv_at hv
        refine z_cv hI (z_runV (As := [.int v51]) (rest := []) X hI hl.1 (c_Acts_begun l G K a0 v51 h _ hv) C_Acts_40 rfl hq (Nat.le_of_ble_eq_true rfl) ⟨by simp only [zR]; omega, by simp only [zR]; omega, Nat.zero_le _, Nat.zero_le _⟩ rfl d_Acts_perform_81) (fun H locs hI => ?_)
        refine z_getsN X hI 0 (by decide) (List.mem_of_getElem? (i := 9) rfl) d_Acts_perform_84 ?_
        refine lv_iload hx hb d_Acts_perform_87 (lv_at hl 5 rfl) ?_
        obtain ⟨v89, hv, hm⟩ := zbd hm
        refine z_tab X hI 0 (by decide) hv d_Acts_perform_89 ?_
        refine lv_istore (lv' := [(7, .int v89), (6, .int v51), (0, .ref (G.1 a0)), (2, .int x2), (3, .int x3), (4, .int x4), (5, .int x5)]) hx hb d_Acts_perform_90 hl (by decide) rfl (fun ls hl => ?_)
        refine lv_iload hx hb d_Acts_perform_92 (lv_at hl 5 rfl) ?_
        refine lv_iconst (v := (nI 1)) hx hb d_Acts_perform_94 (by decide) ?_
        refine lv_iadd hx hb d_Acts_perform_95 ?_
        refine lv_istore (lv' := [(8, .int (x4 + (nI 1))), (7, .int v89), (6, .int v51), (0, .ref (G.1 a0)), (2, .int x2), (3, .int x3), (4, .int x4), (5, .int x5)]) hx hb d_Acts_perform_96 hl (by decide) rfl (fun ls hl => ?_)
        refine lv_iload hx hb d_Acts_perform_98 (lv_at hl 2 rfl) ?_
        by_cases hs100_0 : v51 = (nI 1)
        · replace hm := zif_t hs100_0 hm
          refine lv_lookup (off := 116) (tgt := 216) hx hb d_Acts_perform_100 (by decide) (by rw [hs100_0]; decide) (by decide) ?_
          refine lv_iload_n hx hb d_Acts_perform_216 rfl (lv_at hl 5 rfl) ?_
          refine lv_aload_n hx hb d_Acts_perform_217 rfl (lv_at hl 3 rfl) ?_
          obtain ⟨v218, hv, hm⟩ := zbd hm
          refine z_getI X hI F_Acts_22 hv d_Acts_perform_218 ?_
          refine lv_iadd hx hb d_Acts_perform_221 ?_
          obtain ⟨rfl, rfl⟩ := zs2 hm
          exact z_iret X hI d_Acts_perform_222
        · replace hm := zif_f hs100_0 hm
          by_cases hs100_1 : v51 = (nI 2)
          · replace hm := zif_t hs100_1 hm
            refine lv_lookup (off := 123) (tgt := 223) hx hb d_Acts_perform_100 (by decide) (by rw [hs100_1]; decide) (by decide) ?_
            refine lv_aload_n hx hb d_Acts_perform_223 rfl (lv_at hl 3 rfl) ?_
            refine lv_aload_n hx hb d_Acts_perform_224 rfl (lv_at hl 3 rfl) ?_
            obtain ⟨v225, hv, hm⟩ := zbd hm
            refine z_getI X hI F_Acts_19 hv d_Acts_perform_225 ?_
            refine lv_iconst (v := (nI 1)) hx hb d_Acts_perform_228 (by decide) ?_
            refine lv_iload_n hx hb d_Acts_perform_229 rfl (lv_at hl 5 rfl) ?_
            refine lv_iload hx hb d_Acts_perform_230 (lv_at hl 0 rfl) ?_
            obtain ⟨v232, h232, hv, hm⟩ := zb2_at hm
            obtain ⟨hq, hv⟩ := zcv_at hv
            refine z_ci hI (z_runV (As := [.int v225, .int (nI 1), .int x3, .int (x4 + (nI 1))]) (rest := []) X hI hl.1 (hkk _ _ _ hv) C_Acts_25 rfl hq (Nat.le_of_ble_eq_true rfl) ⟨by simp only [zR]; omega, by simp only [zR]; omega, Nat.zero_le _, Nat.zero_le _⟩ rfl d_Acts_perform_232) (fun H locs hI => ?_)
            refine lv_aload_n hx hb d_Acts_perform_235 rfl (lv_at hl 3 rfl) ?_
            refine lv_aload_n hx hb d_Acts_perform_236 rfl (lv_at hl 3 rfl) ?_
            obtain ⟨v237, hv, hm⟩ := zbd hm
            refine z_getI X hI F_Acts_19 hv d_Acts_perform_237 ?_
            refine lv_iconst (v := (nI 2)) hx hb d_Acts_perform_240 (by decide) ?_
            refine lv_iconst (v := (nI 1)) hx hb d_Acts_perform_241 (by decide) ?_
            refine lv_iload hx hb d_Acts_perform_242 (lv_at hl 0 rfl) ?_
            obtain ⟨v244, h244, hv, hm⟩ := zb2_at hm
            obtain ⟨hq, hv⟩ := zcv_at hv
            refine z_ci hI (z_runV (As := [.int v237, .int (nI 2), .int (nI 1), .int (x4 + (nI 1))]) (rest := [.int v232]) X hI hl.1 (hkk _ _ _ hv) C_Acts_25 rfl hq (Nat.le_of_ble_eq_true rfl) ⟨by simp only [zR]; omega, by simp only [zR]; omega, Nat.zero_le _, Nat.zero_le _⟩ rfl d_Acts_perform_244) (fun H locs hI => ?_)
            refine lv_isub hx hb d_Acts_perform_247 ?_
            obtain ⟨rfl, rfl⟩ := zs2 hm
            exact z_iret X hI d_Acts_perform_248
          · replace hm := zif_f hs100_1 hm
            by_cases hs100_2 : v51 = (nI 10)
            · replace hm := zif_t hs100_2 hm
              refine lv_lookup (off := 149) (tgt := 249) hx hb d_Acts_perform_100 (by decide) (by rw [hs100_2]; decide) (by decide) ?_
              refine lv_aload_n hx hb d_Acts_perform_249 rfl (lv_at hl 3 rfl) ?_
              refine lv_aload_n hx hb d_Acts_perform_250 rfl (lv_at hl 3 rfl) ?_
              obtain ⟨v251, hv, hm⟩ := zbd hm
              refine z_getI X hI F_Acts_19 hv d_Acts_perform_251 ?_
              refine lv_iconst (v := (nI 0)) hx hb d_Acts_perform_254 (by decide) ?_
              refine lv_iload_n hx hb d_Acts_perform_255 rfl (lv_at hl 5 rfl) ?_
              refine lv_iload hx hb d_Acts_perform_256 (lv_at hl 0 rfl) ?_
              obtain ⟨v258, h258, hv, hm⟩ := zb2_at hm
              obtain ⟨hq, hv⟩ := zcv_at hv
              refine z_ci hI (z_runV (As := [.int v251, .int (nI 0), .int x3, .int (x4 + (nI 1))]) (rest := []) X hI hl.1 (hkk _ _ _ hv) C_Acts_25 rfl hq (Nat.le_of_ble_eq_true rfl) ⟨by simp only [zR]; omega, by simp only [zR]; omega, Nat.zero_le _, Nat.zero_le _⟩ rfl d_Acts_perform_258) (fun H locs hI => ?_)
              refine lv_iconst (v := (nI 2)) hx hb d_Acts_perform_261 (by decide) ?_
              refine lv_imul hx hb d_Acts_perform_262 ?_
              obtain ⟨rfl, rfl⟩ := zs2 hm
              exact z_iret X hI d_Acts_perform_263
            · replace hm := zif_f hs100_2 hm
              by_cases hs100_3 : v51 = (nI 11)
              · replace hm := zif_t hs100_3 hm
                refine lv_lookup (off := 164) (tgt := 264) hx hb d_Acts_perform_100 (by decide) (by rw [hs100_3]; decide) (by decide) ?_
                refine lv_iload_n hx hb d_Acts_perform_264 rfl (lv_at hl 5 rfl) ?_
                refine lv_aload_n hx hb d_Acts_perform_265 rfl (lv_at hl 3 rfl) ?_
                obtain ⟨v266, hv, hm⟩ := zbd hm
                refine z_getI X hI F_Acts_22 hv d_Acts_perform_266 ?_
                refine lv_ixor hx hb d_Acts_perform_269 ?_
                obtain ⟨rfl, rfl⟩ := zs2 hm
                exact z_iret X hI d_Acts_perform_270
              · replace hm := zif_f hs100_3 hm
                by_cases hs100_4 : v51 = (nI 20)
                · replace hm := zif_t hs100_4 hm
                  refine lv_lookup (off := 171) (tgt := 271) hx hb d_Acts_perform_100 (by decide) (by rw [hs100_4]; decide) (by decide) ?_
                  refine lv_aload_n hx hb d_Acts_perform_271 rfl (lv_at hl 3 rfl) ?_
                  refine lv_iload hx hb d_Acts_perform_272 (lv_at hl 1 rfl) ?_
                  refine lv_iconst (v := (nI 0)) hx hb d_Acts_perform_274 (by decide) ?_
                  refine lv_iload_n hx hb d_Acts_perform_275 rfl (lv_at hl 5 rfl) ?_
                  refine lv_iload hx hb d_Acts_perform_276 (lv_at hl 0 rfl) ?_
                  obtain ⟨v278, h278, hv, hm⟩ := zb2_at hm
                  obtain ⟨hq, hv⟩ := zcv_at hv
                  refine z_ci hI (z_runV (As := [.int v89, .int (nI 0), .int x3, .int (x4 + (nI 1))]) (rest := []) X hI hl.1 (hkk _ _ _ hv) C_Acts_25 rfl hq (Nat.le_of_ble_eq_true rfl) ⟨by simp only [zR]; omega, by simp only [zR]; omega, Nat.zero_le _, Nat.zero_le _⟩ rfl d_Acts_perform_278) (fun H locs hI => ?_)
                  refine lv_iconst (v := (nI 2)) hx hb d_Acts_perform_281 (by decide) ?_
                  refine lv_idiv hx hb d_Acts_perform_282 (by decide) ?_
                  obtain ⟨rfl, rfl⟩ := zs2 hm
                  exact z_iret X hI d_Acts_perform_283
                · replace hm := zif_f hs100_4 hm
                  by_cases hs100_5 : v51 = (nI 30)
                  · replace hm := zif_t hs100_5 hm
                    refine lv_lookup (off := 184) (tgt := 284) hx hb d_Acts_perform_100 (by decide) (by rw [hs100_5]; decide) (by decide) ?_
                    refine lv_aload_n hx hb d_Acts_perform_284 rfl (lv_at hl 3 rfl) ?_
                    refine lv_iload hx hb d_Acts_perform_285 (lv_at hl 1 rfl) ?_
                    refine lv_iconst (v := (nI 2)) hx hb d_Acts_perform_287 (by decide) ?_
                    refine lv_iload_n hx hb d_Acts_perform_288 rfl (lv_at hl 5 rfl) ?_
                    refine lv_iload hx hb d_Acts_perform_289 (lv_at hl 0 rfl) ?_
                    obtain ⟨v291, h291, hv, hm⟩ := zb2_at hm
                    obtain ⟨hq, hv⟩ := zcv_at hv
                    refine z_ci hI (z_runV (As := [.int v89, .int (nI 2), .int x3, .int (x4 + (nI 1))]) (rest := []) X hI hl.1 (hkk _ _ _ hv) C_Acts_25 rfl hq (Nat.le_of_ble_eq_true rfl) ⟨by simp only [zR]; omega, by simp only [zR]; omega, Nat.zero_le _, Nat.zero_le _⟩ rfl d_Acts_perform_291) (fun H locs hI => ?_)
                    refine lv_aload_n hx hb d_Acts_perform_294 rfl (lv_at hl 3 rfl) ?_
                    refine lv_aload_n hx hb d_Acts_perform_295 rfl (lv_at hl 3 rfl) ?_
                    obtain ⟨v296, hv, hm⟩ := zbd hm
                    refine z_getI X hI F_Acts_19 hv d_Acts_perform_296 ?_
                    refine lv_iconst (v := (nI 0)) hx hb d_Acts_perform_299 (by decide) ?_
                    refine lv_iconst (v := (nI 2)) hx hb d_Acts_perform_300 (by decide) ?_
                    refine lv_iload hx hb d_Acts_perform_301 (lv_at hl 0 rfl) ?_
                    obtain ⟨v303, h303, hv, hm⟩ := zb2_at hm
                    obtain ⟨hq, hv⟩ := zcv_at hv
                    refine z_ci hI (z_runV (As := [.int v296, .int (nI 0), .int (nI 2), .int (x4 + (nI 1))]) (rest := [.int v291]) X hI hl.1 (hkk _ _ _ hv) C_Acts_25 rfl hq (Nat.le_of_ble_eq_true rfl) ⟨by simp only [zR]; omega, by simp only [zR]; omega, Nat.zero_le _, Nat.zero_le _⟩ rfl d_Acts_perform_303) (fun H locs hI => ?_)
                    refine lv_iadd hx hb d_Acts_perform_306 ?_
                    obtain ⟨rfl, rfl⟩ := zs2 hm
                    exact z_iret X hI d_Acts_perform_307
                  · replace hm := zif_f hs100_5 hm
                    by_cases hs100_6 : v51 = (nI 40)
                    · replace hm := zif_t hs100_6 hm
                      refine lv_lookup (off := 208) (tgt := 308) hx hb d_Acts_perform_100 (by decide) (by rw [hs100_6]; decide) (by decide) ?_
                      refine lv_aload_n hx hb d_Acts_perform_308 rfl (lv_at hl 3 rfl) ?_
                      refine lv_iload hx hb d_Acts_perform_309 (lv_at hl 1 rfl) ?_
                      refine lv_iconst (v := (nI 1)) hx hb d_Acts_perform_311 (by decide) ?_
                      refine lv_iload_n hx hb d_Acts_perform_312 rfl (lv_at hl 5 rfl) ?_
                      refine lv_iload hx hb d_Acts_perform_313 (lv_at hl 0 rfl) ?_
                      obtain ⟨v315, h315, hv, hm⟩ := zb2_at hm
                      obtain ⟨hq, hv⟩ := zcv_at hv
                      refine z_ci hI (z_runV (As := [.int v89, .int (nI 1), .int x3, .int (x4 + (nI 1))]) (rest := []) X hI hl.1 (hkk _ _ _ hv) C_Acts_25 rfl hq (Nat.le_of_ble_eq_true rfl) ⟨by simp only [zR]; omega, by simp only [zR]; omega, Nat.zero_le _, Nat.zero_le _⟩ rfl d_Acts_perform_315) (fun H locs hI => ?_)
                      refine lv_iconst (v := (nI 1)) hx hb d_Acts_perform_318 (by decide) ?_
                      refine lv_isub hx hb d_Acts_perform_319 ?_
                      obtain ⟨rfl, rfl⟩ := zs2 hm
                      exact z_iret X hI d_Acts_perform_320
                    · replace hm := zif_f hs100_6 hm
                      by_cases hs100_7 : v51 = (nI 50)
                      · replace hm := zif_t hs100_7 hm
                        refine lv_lookup (off := 221) (tgt := 321) hx hb d_Acts_perform_100 (by decide) (by rw [hs100_7]; decide) (by decide) ?_
                        refine lv_aload_n hx hb d_Acts_perform_321 rfl (lv_at hl 3 rfl) ?_
                        refine lv_iload hx hb d_Acts_perform_322 (lv_at hl 1 rfl) ?_
                        refine lv_iconst (v := (nI 0)) hx hb d_Acts_perform_324 (by decide) ?_
                        refine lv_iload_n hx hb d_Acts_perform_325 rfl (lv_at hl 5 rfl) ?_
                        refine lv_iload hx hb d_Acts_perform_326 (lv_at hl 0 rfl) ?_
                        obtain ⟨v328, h328, hv, hm⟩ := zb2_at hm
                        obtain ⟨hq, hv⟩ := zcv_at hv
                        refine z_ci hI (z_runV (As := [.int v89, .int (nI 0), .int x3, .int (x4 + (nI 1))]) (rest := []) X hI hl.1 (hkk _ _ _ hv) C_Acts_25 rfl hq (Nat.le_of_ble_eq_true rfl) ⟨by simp only [zR]; omega, by simp only [zR]; omega, Nat.zero_le _, Nat.zero_le _⟩ rfl d_Acts_perform_328) (fun H locs hI => ?_)
                        refine lv_iconst (v := (nI 3)) hx hb d_Acts_perform_331 (by decide) ?_
                        refine lv_imul hx hb d_Acts_perform_332 ?_
                        obtain ⟨rfl, rfl⟩ := zs2 hm
                        exact z_iret X hI d_Acts_perform_333
                      · replace hm := zif_f hs100_7 hm
                        by_cases hs100_8 : v51 = (nI 60)
                        · replace hm := zif_t hs100_8 hm
                          refine lv_lookup (off := 234) (tgt := 334) hx hb d_Acts_perform_100 (by decide) (by rw [hs100_8]; decide) (by decide) ?_
                          refine lv_aload_n hx hb d_Acts_perform_334 rfl (lv_at hl 3 rfl) ?_
                          refine lv_iload hx hb d_Acts_perform_335 (lv_at hl 1 rfl) ?_
                          refine lv_iconst (v := (nI 3)) hx hb d_Acts_perform_337 (by decide) ?_
                          refine lv_iload_n hx hb d_Acts_perform_338 rfl (lv_at hl 5 rfl) ?_
                          refine lv_iload hx hb d_Acts_perform_339 (lv_at hl 0 rfl) ?_
                          obtain ⟨v341, h341, hv, hm⟩ := zb2_at hm
                          obtain ⟨hq, hv⟩ := zcv_at hv
                          refine z_ci hI (z_runV (As := [.int v89, .int (nI 3), .int x3, .int (x4 + (nI 1))]) (rest := []) X hI hl.1 (hkk _ _ _ hv) C_Acts_25 rfl hq (Nat.le_of_ble_eq_true rfl) ⟨by simp only [zR]; omega, by simp only [zR]; omega, Nat.zero_le _, Nat.zero_le _⟩ rfl d_Acts_perform_341) (fun H locs hI => ?_)
                          refine lv_iconst (v := (nI 5)) hx hb d_Acts_perform_344 (by decide) ?_
                          refine lv_ixor hx hb d_Acts_perform_345 ?_
                          obtain ⟨rfl, rfl⟩ := zs2 hm
                          exact z_iret X hI d_Acts_perform_346
                        · replace hm := zif_f hs100_8 hm
                          by_cases hs100_9 : v51 = (nI 61)
                          · replace hm := zif_t hs100_9 hm
                            refine lv_lookup (off := 247) (tgt := 347) hx hb d_Acts_perform_100 (by decide) (by rw [hs100_9]; decide) (by decide) ?_
                            refine lv_aload_n hx hb d_Acts_perform_347 rfl (lv_at hl 3 rfl) ?_
                            refine lv_iload hx hb d_Acts_perform_348 (lv_at hl 1 rfl) ?_
                            refine lv_iconst (v := (nI 2)) hx hb d_Acts_perform_350 (by decide) ?_
                            refine lv_iload_n hx hb d_Acts_perform_351 rfl (lv_at hl 5 rfl) ?_
                            refine lv_iconst (v := (nI 1)) hx hb d_Acts_perform_352 (by decide) ?_
                            refine lv_iadd hx hb d_Acts_perform_353 ?_
                            refine lv_iload hx hb d_Acts_perform_354 (lv_at hl 0 rfl) ?_
                            obtain ⟨v356, h356, hv, hm⟩ := zb2_at hm
                            obtain ⟨hq, hv⟩ := zcv_at hv
                            refine z_ci hI (z_runV (As := [.int v89, .int (nI 2), .int (x3 + (nI 1)), .int (x4 + (nI 1))]) (rest := []) X hI hl.1 (hkk _ _ _ hv) C_Acts_25 rfl hq (Nat.le_of_ble_eq_true rfl) ⟨by simp only [zR]; omega, by simp only [zR]; omega, Nat.zero_le _, Nat.zero_le _⟩ rfl d_Acts_perform_356) (fun H locs hI => ?_)
                            obtain ⟨rfl, rfl⟩ := zs2 hm
                            exact z_iret X hI d_Acts_perform_359
                          · replace hm := zif_f hs100_9 hm
                            by_cases hs100_10 : v51 = (nI 70)
                            · replace hm := zif_t hs100_10 hm
                              refine lv_lookup (off := 260) (tgt := 360) hx hb d_Acts_perform_100 (by decide) (by rw [hs100_10]; decide) (by decide) ?_
                              refine lv_aload_n hx hb d_Acts_perform_360 rfl (lv_at hl 3 rfl) ?_
                              refine lv_iload hx hb d_Acts_perform_361 (lv_at hl 1 rfl) ?_
                              refine lv_iconst (v := (nI 2)) hx hb d_Acts_perform_363 (by decide) ?_
                              refine lv_iload_n hx hb d_Acts_perform_364 rfl (lv_at hl 5 rfl) ?_
                              refine lv_iload hx hb d_Acts_perform_365 (lv_at hl 0 rfl) ?_
                              obtain ⟨v367, h367, hv, hm⟩ := zb2_at hm
                              obtain ⟨hq, hv⟩ := zcv_at hv
                              refine z_ci hI (z_runV (As := [.int v89, .int (nI 2), .int x3, .int (x4 + (nI 1))]) (rest := []) X hI hl.1 (hkk _ _ _ hv) C_Acts_25 rfl hq (Nat.le_of_ble_eq_true rfl) ⟨by simp only [zR]; omega, by simp only [zR]; omega, Nat.zero_le _, Nat.zero_le _⟩ rfl d_Acts_perform_367) (fun H locs hI => ?_)
                              refine lv_ineg hx hb d_Acts_perform_370 ?_
                              obtain ⟨rfl, rfl⟩ := zs2 hm
                              exact z_iret X hI d_Acts_perform_371
                            · replace hm := zif_f hs100_10 hm
                              by_cases hs100_11 : v51 = (nI 80)
                              · replace hm := zif_t hs100_11 hm
                                refine lv_lookup (off := 272) (tgt := 372) hx hb d_Acts_perform_100 (by decide) (by rw [hs100_11]; decide) (by decide) ?_
                                refine lv_aload_n hx hb d_Acts_perform_372 rfl (lv_at hl 3 rfl) ?_
                                refine lv_iload hx hb d_Acts_perform_373 (lv_at hl 1 rfl) ?_
                                refine lv_iconst (v := (nI 1)) hx hb d_Acts_perform_375 (by decide) ?_
                                refine lv_iload_n hx hb d_Acts_perform_376 rfl (lv_at hl 5 rfl) ?_
                                refine lv_iload hx hb d_Acts_perform_377 (lv_at hl 0 rfl) ?_
                                obtain ⟨v379, h379, hv, hm⟩ := zb2_at hm
                                obtain ⟨hq, hv⟩ := zcv_at hv
                                refine z_ci hI (z_runV (As := [.int v89, .int (nI 1), .int x3, .int (x4 + (nI 1))]) (rest := []) X hI hl.1 (hkk _ _ _ hv) C_Acts_25 rfl hq (Nat.le_of_ble_eq_true rfl) ⟨by simp only [zR]; omega, by simp only [zR]; omega, Nat.zero_le _, Nat.zero_le _⟩ rfl d_Acts_perform_379) (fun H locs hI => ?_)
                                refine lv_aload_n hx hb d_Acts_perform_382 rfl (lv_at hl 3 rfl) ?_
                                refine lv_iload hx hb d_Acts_perform_383 (lv_at hl 1 rfl) ?_
                                refine lv_iconst (v := (nI 0)) hx hb d_Acts_perform_385 (by decide) ?_
                                refine lv_iload_n hx hb d_Acts_perform_386 rfl (lv_at hl 5 rfl) ?_
                                refine lv_iload hx hb d_Acts_perform_387 (lv_at hl 0 rfl) ?_
                                obtain ⟨v389, h389, hv, hm⟩ := zb2_at hm
                                obtain ⟨hq, hv⟩ := zcv_at hv
                                refine z_ci hI (z_runV (As := [.int v89, .int (nI 0), .int x3, .int (x4 + (nI 1))]) (rest := [.int v379]) X hI hl.1 (hkk _ _ _ hv) C_Acts_25 rfl hq (Nat.le_of_ble_eq_true rfl) ⟨by simp only [zR]; omega, by simp only [zR]; omega, Nat.zero_le _, Nat.zero_le _⟩ rfl d_Acts_perform_389) (fun H locs hI => ?_)
                                refine lv_iadd hx hb d_Acts_perform_392 ?_
                                obtain ⟨rfl, rfl⟩ := zs2 hm
                                exact z_iret X hI d_Acts_perform_393
                              · replace hm := zif_f hs100_11 hm
                                by_cases hs100_12 : v51 = (nI 90)
                                · replace hm := zif_t hs100_12 hm
                                  refine lv_lookup (off := 294) (tgt := 394) hx hb d_Acts_perform_100 (by decide) (by rw [hs100_12]; decide) (by decide) ?_
                                  refine lv_aload_n hx hb d_Acts_perform_394 rfl (lv_at hl 3 rfl) ?_
                                  refine lv_iload hx hb d_Acts_perform_395 (lv_at hl 1 rfl) ?_
                                  refine lv_iconst (v := (nI 3)) hx hb d_Acts_perform_397 (by decide) ?_
                                  refine lv_iload_n hx hb d_Acts_perform_398 rfl (lv_at hl 5 rfl) ?_
                                  refine lv_iload hx hb d_Acts_perform_399 (lv_at hl 0 rfl) ?_
                                  obtain ⟨v401, h401, hv, hm⟩ := zb2_at hm
                                  obtain ⟨hq, hv⟩ := zcv_at hv
                                  refine z_ci hI (z_runV (As := [.int v89, .int (nI 3), .int x3, .int (x4 + (nI 1))]) (rest := []) X hI hl.1 (hkk _ _ _ hv) C_Acts_25 rfl hq (Nat.le_of_ble_eq_true rfl) ⟨by simp only [zR]; omega, by simp only [zR]; omega, Nat.zero_le _, Nat.zero_le _⟩ rfl d_Acts_perform_401) (fun H locs hI => ?_)
                                  refine lv_iconst (v := (nI 2)) hx hb d_Acts_perform_404 (by decide) ?_
                                  refine lv_imul hx hb d_Acts_perform_405 ?_
                                  obtain ⟨rfl, rfl⟩ := zs2 hm
                                  exact z_iret X hI d_Acts_perform_406
                                · replace hm := zif_f hs100_12 hm
                                  have he0 : ¬ (1 : Int) = (v51).toInt := fun q => hs100_0 (Int32.toInt_inj.mp (q.symm.trans (by decide)))
                                  have he1 : ¬ (2 : Int) = (v51).toInt := fun q => hs100_1 (Int32.toInt_inj.mp (q.symm.trans (by decide)))
                                  have he2 : ¬ (10 : Int) = (v51).toInt := fun q => hs100_2 (Int32.toInt_inj.mp (q.symm.trans (by decide)))
                                  have he3 : ¬ (11 : Int) = (v51).toInt := fun q => hs100_3 (Int32.toInt_inj.mp (q.symm.trans (by decide)))
                                  have he4 : ¬ (20 : Int) = (v51).toInt := fun q => hs100_4 (Int32.toInt_inj.mp (q.symm.trans (by decide)))
                                  have he5 : ¬ (30 : Int) = (v51).toInt := fun q => hs100_5 (Int32.toInt_inj.mp (q.symm.trans (by decide)))
                                  have he6 : ¬ (40 : Int) = (v51).toInt := fun q => hs100_6 (Int32.toInt_inj.mp (q.symm.trans (by decide)))
                                  have he7 : ¬ (50 : Int) = (v51).toInt := fun q => hs100_7 (Int32.toInt_inj.mp (q.symm.trans (by decide)))
                                  have he8 : ¬ (60 : Int) = (v51).toInt := fun q => hs100_8 (Int32.toInt_inj.mp (q.symm.trans (by decide)))
                                  have he9 : ¬ (61 : Int) = (v51).toInt := fun q => hs100_9 (Int32.toInt_inj.mp (q.symm.trans (by decide)))
                                  have he10 : ¬ (70 : Int) = (v51).toInt := fun q => hs100_10 (Int32.toInt_inj.mp (q.symm.trans (by decide)))
                                  have he11 : ¬ (80 : Int) = (v51).toInt := fun q => hs100_11 (Int32.toInt_inj.mp (q.symm.trans (by decide)))
                                  have he12 : ¬ (90 : Int) = (v51).toInt := fun q => hs100_12 (Int32.toInt_inj.mp (q.symm.trans (by decide)))
                                  refine lv_lookup (off := 307) (tgt := 407) hx hb d_Acts_perform_100 (by decide) (by simp [Op.lookupswitch.offset, List.find?, he0, he1, he2, he3, he4, he5, he6, he7, he8, he9, he10, he11, he12]) (by decide) ?_
                                  refine lv_iconst (v := (nI 0)) hx hb d_Acts_perform_407 (by decide) ?_
                                  obtain ⟨rfl, rfl⟩ := zs2 hm
                                  exact z_iret X hI d_Acts_perform_408
      · replace hm := zif_f hc73 hm
        refine lv_iconst (v := (nI 0)) hx hb d_Acts_perform_76 (by decide) ?_
        obtain ⟨rfl, rfl⟩ := zs2 hm
        exact z_iret X hI d_Acts_perform_77
set_option maxHeartbeats 4000000 in
set_option maxRecDepth 100000 in
theorem r_Acts_perform_6_b {p : Program} {l : Launch} {e : Env} {s : State} {m : MethodId} {args : Array Value} {below : List Frame} {meth : Method} {c : Code} {G : zG} {K : Nat} {n0 : Nat} (X : zX p s m args meth c "AllHome$Acts" prog_2_method_6_code 9 (some .int) G (zA G K)) {r : Int32} {h' : zH} (a0 : Nat) (x2 : Int32) (x3 : Int32) (x4 : Int32) (h : zH) (kk : (Nat × Int32 × Int32 × Int32 × Int32 × zH) → Option (Int32 × zH)) (hkk : ∀ (w : Nat × Int32 × Int32 × Int32 × Int32 × zH) (r : Int32) (h' : zH), kk w = some (r, h') → zMi l G K y_Acts_perform prog_2_method_6_code 9 (n0 + 2) [.ref (G.1 w.1), .int w.2.1, .int w.2.2.1, .int w.2.2.2.1, .int w.2.2.2.2.1] w.2.2.2.2.2 r h') (k6 : (Int32 × Int32) → Option (Int32 × zH)) (hk6 : ∀ (w : Int32 × Int32), k6 w = some (r, h') → ∀ (H : Heap) (locs : List Loc) (ls : Array Slot), zI G K s (zA G K) H locs h → lv_has ls 9 [(0, .ref (G.1 a0)), (2, .int x2), (3, .int x3), (4, .int x4), (5, .int w.1), (6, .int w.2)] → W p l e (zR (n0 + 3)) s m args below meth c H locs 0 0 (MQ below (zQi G K r h') args s 0 0 (zA G K)) (F0 m 6 ls [])) (u : Int32 × Int32) (hm : g_Acts_perform_6 a0 x2 x3 x4 h kk k6 u = some (r, h')) {H : Heap} {locs : List Loc} {ls : Array Slot} (hI : zI G K s (zA G K) H locs h) (hl : lv_has ls 9 [(0, .ref (G.1 a0)), (2, .int x2), (3, .int x3), (4, .int x4), (5, .int u.1), (6, .int u.2)]) : W p l e (zR (n0 + 3)) s m args below meth c H locs 0 0 (MQ below (zQi G K r h') args s 0 0 (zA G K)) (F0 m 6 ls []) := by
  obtain ⟨hx, hb, hml, hown, hts, hr, hlocks, hK, hST, hNs⟩ := id X
  unfold g_Acts_perform_6 at hm
  refine lv_iload hx hb d_Acts_perform_6 (lv_at hl 5 rfl) ?_
  refine lv_bipush (v := (nI 9)) hx hb d_Acts_perform_8 (by decide) ?_
  refine lv_icmp_ge (tgt := 48) hx hb d_Acts_perform_10 (by decide) (fun hc10 => ?_) (fun hc10 => ?_)
  · replace hm := zif_t hc10 hm
    exact r_Acts_perform_48 X a0 x2 x3 x4 u.1 h kk hkk hm hI (lv_sub hl [0, 1, 2, 3, 4] rfl)
  · replace hm := zif_f hc10 hm
    refine lv_iload hx hb d_Acts_perform_13 (lv_at hl 4 rfl) ?_
    refine lv_iload_n hx hb d_Acts_perform_15 rfl (lv_at hl 1 rfl) ?_
    obtain ⟨v16, hv, hm⟩ := zbd hm
    refine z_ci hI (z_runS (As := [.int u.1, .int x2]) (rest := []) X hI hl.1 (c_Acts_bodyOf l G K u.1 x2 h _ hv) C_Acts_29 rfl (Nat.le_of_ble_eq_true rfl) ⟨by simp only [zR]; omega, by simp only [zR]; omega, Nat.zero_le _, Nat.zero_le _⟩ rfl d_Acts_perform_16) (fun H locs hI => ?_)
    refine lv_if_ne (tgt := 48) hx hb d_Acts_perform_19 (by decide) (fun hc19 => ?_) (fun hc19 => ?_)
    · replace hm := zif_f hc19 hm
      exact r_Acts_perform_48 X a0 x2 x3 x4 u.1 h kk hkk hm hI (lv_sub hl [0, 1, 2, 3, 4] rfl)
    · replace hm := zif_t hc19 hm
      refine lv_iload hx hb d_Acts_perform_22 (lv_at hl 4 rfl) ?_
      obtain ⟨v24, hv, hm⟩ := zbd hm
      refine z_ci hI (z_runN (As := [.int u.1]) (rest := []) X hI hl.1 (c_Home_isKind l G K u.1 h _ hv) C_Acts_33 rfl (Nat.le_of_ble_eq_true rfl) ⟨by simp only [zR]; omega, by simp only [zR]; omega, Nat.zero_le _, Nat.zero_le _⟩ rfl d_Acts_perform_24) (fun H locs hI => ?_)
      refine lv_if_eq (tgt := 39) hx hb d_Acts_perform_27 (by decide) (fun hc27 => ?_) (fun hc27 => ?_)
      · replace hm := zif_t hc27 hm
        refine lv_iconst (v := (-1 : Int32)) hx hb d_Acts_perform_39 (by decide) ?_
        refine lv_istore (lv' := [(5, .int (-1 : Int32)), (0, .ref (G.1 a0)), (2, .int x2), (3, .int x3), (4, .int x4), (6, .int u.2)]) hx hb d_Acts_perform_40 hl (by decide) rfl (fun ls hl => ?_)
        refine lv_iinc (v := (u.2 + (nI 1))) (lv' := [(6, .int (u.2 + (nI 1))), (5, .int (-1 : Int32)), (0, .ref (G.1 a0)), (2, .int x2), (3, .int x3), (4, .int x4)]) hx hb d_Acts_perform_42 hl (k := 5) rfl (congrArg (fun z => u.2 + z) (show Int32.ofInt (1) = (nI 1) by decide)) (by decide) rfl (fun ls hl => ?_)
        refine lv_goto (tgt := 6) hx hb d_Acts_perform_45 (by decide) ?_
        obtain ⟨g0, e0⟩ : ∃ z, z = (-1 : Int32) := ⟨_, rfl⟩
        rw [← e0] at hm hl
        obtain ⟨g1, e1⟩ : ∃ z, z = (u.2 + (nI 1)) := ⟨_, rfl⟩
        rw [← e1] at hm hl
        exact hk6 (g0, g1) hm _ _ _ hI (lv_sub hl [2, 3, 4, 5, 1, 0] rfl)
      · replace hm := zif_f hc27 hm
        refine z_getsN X hI 0 (by decide) (List.mem_of_getElem? (i := 9) rfl) d_Acts_perform_30 ?_
        refine lv_iload hx hb d_Acts_perform_33 (lv_at hl 4 rfl) ?_
        obtain ⟨v35, hv, hm⟩ := zbd hm
        refine z_tab X hI 0 (by decide) hv d_Acts_perform_35 ?_
        refine lv_goto (tgt := 40) hx hb d_Acts_perform_36 (by decide) ?_
        refine lv_istore (lv' := [(5, .int v35), (0, .ref (G.1 a0)), (2, .int x2), (3, .int x3), (4, .int x4), (6, .int u.2)]) hx hb d_Acts_perform_40 hl (by decide) rfl (fun ls hl => ?_)
        refine lv_iinc (v := (u.2 + (nI 1))) (lv' := [(6, .int (u.2 + (nI 1))), (5, .int v35), (0, .ref (G.1 a0)), (2, .int x2), (3, .int x3), (4, .int x4)]) hx hb d_Acts_perform_42 hl (k := 5) rfl (congrArg (fun z => u.2 + z) (show Int32.ofInt (1) = (nI 1) by decide)) (by decide) rfl (fun ls hl => ?_)
        refine lv_goto (tgt := 6) hx hb d_Acts_perform_45 (by decide) ?_
        obtain ⟨g1, e1⟩ : ∃ z, z = (u.2 + (nI 1)) := ⟨_, rfl⟩
        rw [← e1] at hm hl
        exact hk6 (v35, g1) hm _ _ _ hI (lv_sub hl [2, 3, 4, 5, 1, 0] rfl)
theorem r_Acts_perform_6 {p : Program} {l : Launch} {e : Env} {s : State} {m : MethodId} {args : Array Value} {below : List Frame} {meth : Method} {c : Code} {G : zG} {K : Nat} {n0 : Nat} (X : zX p s m args meth c "AllHome$Acts" prog_2_method_6_code 9 (some .int) G (zA G K)) {r : Int32} {h' : zH} (a0 : Nat) (x2 : Int32) (x3 : Int32) (x4 : Int32) (h : zH) (kk : (Nat × Int32 × Int32 × Int32 × Int32 × zH) → Option (Int32 × zH)) (hkk : ∀ (w : Nat × Int32 × Int32 × Int32 × Int32 × zH) (r : Int32) (h' : zH), kk w = some (r, h') → zMi l G K y_Acts_perform prog_2_method_6_code 9 (n0 + 2) [.ref (G.1 w.1), .int w.2.1, .int w.2.2.1, .int w.2.2.2.1, .int w.2.2.2.2.1] w.2.2.2.2.2 r h') : ∀ (n : Nat) (w : Int32 × Int32), zloop (g_Acts_perform_6 a0 x2 x3 x4 h kk) n w = some (r, h') → ∀ (H : Heap) (locs : List Loc) (ls : Array Slot), zI G K s (zA G K) H locs h → lv_has ls 9 [(0, .ref (G.1 a0)), (2, .int x2), (3, .int x3), (4, .int x4), (5, .int w.1), (6, .int w.2)] → W p l e (zR (n0 + 3)) s m args below meth c H locs 0 0 (MQ below (zQi G K r h') args s 0 0 (zA G K)) (F0 m 6 ls []) := by
  intro n
  induction n with
  | zero => intro w hm; cases hm
  | succ n ih => intro w hm H locs ls hI hl; exact r_Acts_perform_6_b X a0 x2 x3 x4 h kk hkk (zloop (g_Acts_perform_6 a0 x2 x3 x4 h kk) n) ih w (zls hm) hI hl
set_option maxHeartbeats 4000000 in
set_option maxRecDepth 100000 in
theorem r_Acts_perform_0 {p : Program} {l : Launch} {e : Env} {s : State} {m : MethodId} {args : Array Value} {below : List Frame} {meth : Method} {c : Code} {G : zG} {K : Nat} {n0 : Nat} (X : zX p s m args meth c "AllHome$Acts" prog_2_method_6_code 9 (some .int) G (zA G K)) {r : Int32} {h' : zH} (kk : (Nat × Int32 × Int32 × Int32 × Int32 × zH) → Option (Int32 × zH)) (hkk : ∀ (w : Nat × Int32 × Int32 × Int32 × Int32 × zH) (r : Int32) (h' : zH), kk w = some (r, h') → zMi l G K y_Acts_perform prog_2_method_6_code 9 (n0 + 2) [.ref (G.1 w.1), .int w.2.1, .int w.2.2.1, .int w.2.2.2.1, .int w.2.2.2.2.1] w.2.2.2.2.2 r h') (u : Nat × Int32 × Int32 × Int32 × Int32 × zH) (hm : g_Acts_perform_0 kk u = some (r, h')) {H : Heap} {locs : List Loc} {ls : Array Slot} (hI : zI G K s (zA G K) H locs u.2.2.2.2.2) (hl : lv_has ls 9 [(0, .ref (G.1 u.1)), (1, .int u.2.1), (2, .int u.2.2.1), (3, .int u.2.2.2.1), (4, .int u.2.2.2.2.1)]) : W p l e (zR (n0 + 3)) s m args below meth c H locs 0 0 (MQ below (zQi G K r h') args s 0 0 (zA G K)) (F0 m 0 ls []) := by
  obtain ⟨hx, hb, hml, hown, hts, hr, hlocks, hK, hST, hNs⟩ := id X
  unfold g_Acts_perform_0 at hm
  refine lv_iload_n hx hb d_Acts_perform_0 rfl (lv_at hl 1 rfl) ?_
  refine lv_istore (lv' := [(5, .int u.2.1), (0, .ref (G.1 u.1)), (1, .int u.2.1), (2, .int u.2.2.1), (3, .int u.2.2.2.1), (4, .int u.2.2.2.2.1)]) hx hb d_Acts_perform_1 hl (by decide) rfl (fun ls hl => ?_)
  refine lv_iconst (v := (nI 0)) hx hb d_Acts_perform_3 (by decide) ?_
  refine lv_istore (lv' := [(6, .int (nI 0)), (5, .int u.2.1), (0, .ref (G.1 u.1)), (1, .int u.2.1), (2, .int u.2.2.1), (3, .int u.2.2.2.1), (4, .int u.2.2.2.2.1)]) hx hb d_Acts_perform_4 hl (by decide) rfl (fun ls hl => ?_)
  obtain ⟨g0, e0⟩ : ∃ z, z = u.2.1 := ⟨_, rfl⟩
  rw [← e0] at hm hl
  exact r_Acts_perform_6 X u.1 u.2.2.1 u.2.2.2.1 u.2.2.2.2.1 u.2.2.2.2.2 kk hkk zN (g0, (nI 0)) hm _ _ _ hI (lv_sub hl [2, 4, 5, 6, 1, 0] rfl)
set_option maxHeartbeats 4000000 in
set_option maxRecDepth 100000 in
theorem cz_Acts_perform (l : Launch) (G : zG) (K : Nat) : ∀ (n : Nat) (w : Nat × Int32 × Int32 × Int32 × Int32 × zH) (r : Int32) (h' : zH), zloop g_Acts_perform_0 n w = some (r, h') → zMi l G K y_Acts_perform prog_2_method_6_code 9 (n + 2) [.ref (G.1 w.1), .int w.2.1, .int w.2.2.1, .int w.2.2.2.1, .int w.2.2.2.2.1] w.2.2.2.2.2 r h' := by
  intro n
  induction n with
  | zero => intro w r h' hm; cases hm
  | succ n ih =>
    intro w r h' hm
    have hm : g_Acts_perform_0 (zloop g_Acts_perform_0 n) w = some (r, h') := zls hm
    have E : n + 1 + 2 = n + 3 := by omega
    rw [E]
    exact zMet (by decide +kernel) (Nat.le_of_ble_eq_true rfl) (fun p e s m below meth c ls X hI hl => r_Acts_perform_0 (n0 := n) X (zloop g_Acts_perform_0 n) ih w hm hI hl)
theorem c_Acts_perform (l : Launch) (G : zG) (K : Nat) (n : Nat) (a0 : Nat) (x1 : Int32) (x2 : Int32) (x3 : Int32) (x4 : Int32) (h : zH) (r : Int32) (h' : zH) (hm : m_Acts_perform n a0 x1 x2 x3 x4 h = some (r, h')) : zMi l G K y_Acts_perform prog_2_method_6_code 9 (n + 2) [.ref (G.1 a0), .int x1, .int x2, .int x3, .int x4] h r h' := cz_Acts_perform l G K n (a0, x1, x2, x3, x4, h) r h' hm
-- walk of AllHome$Acts.begin
theorem d_Acts_begin_0 : decode prog_2_method_5_code 0 = .ok (.aload_n 0, 1) := by decide +kernel
theorem d_Acts_begin_1 : decode prog_2_method_5_code 1 = .ok (.iload_n 1, 1) := by decide +kernel
theorem d_Acts_begin_2 : decode prog_2_method_5_code 2 = .ok (.putfield 19, 3) := by decide +kernel
theorem d_Acts_begin_5 : decode prog_2_method_5_code 5 = .ok (.aload_n 0, 1) := by decide +kernel
theorem d_Acts_begin_6 : decode prog_2_method_5_code 6 = .ok (.iload_n 2, 1) := by decide +kernel
theorem d_Acts_begin_7 : decode prog_2_method_5_code 7 = .ok (.putfield 22, 3) := by decide +kernel
theorem d_Acts_begin_10 : decode prog_2_method_5_code 10 = .ok (.aload_n 0, 1) := by decide +kernel
theorem d_Acts_begin_11 : decode prog_2_method_5_code 11 = .ok (.aload_n 0, 1) := by decide +kernel
theorem d_Acts_begin_12 : decode prog_2_method_5_code 12 = .ok (.getfield 19, 3) := by decide +kernel
theorem d_Acts_begin_15 : decode prog_2_method_5_code 15 = .ok (.iload_n 3, 1) := by decide +kernel
theorem d_Acts_begin_16 : decode prog_2_method_5_code 16 = .ok (.iload 4, 2) := by decide +kernel
theorem d_Acts_begin_18 : decode prog_2_method_5_code 18 = .ok (.iconst 0, 1) := by decide +kernel
theorem d_Acts_begin_19 : decode prog_2_method_5_code 19 = .ok (.invokevirtual 25, 3) := by decide +kernel
theorem d_Acts_begin_22 : decode prog_2_method_5_code 22 = .ok (.ireturn, 1) := by decide +kernel
set_option maxHeartbeats 4000000 in
set_option maxRecDepth 100000 in
theorem r_Acts_begin_0 {p : Program} {l : Launch} {e : Env} {s : State} {m : MethodId} {args : Array Value} {below : List Frame} {meth : Method} {c : Code} {G : zG} {K : Nat} (X : zX p s m args meth c "AllHome$Acts" prog_2_method_5_code 5 (some .int) G (zA G K)) {r : Int32} {h' : zH} (a0 : Nat) (x1 : Int32) (x2 : Int32) (x3 : Int32) (x4 : Int32) (h : zH) (hm : m_Acts_begin a0 x1 x2 x3 x4 h = some (r, h')) {H : Heap} {locs : List Loc} {ls : Array Slot} (hI : zI G K s (zA G K) H locs h) (hl : lv_has ls 5 [(0, .ref (G.1 a0)), (1, .int x1), (2, .int x2), (3, .int x3), (4, .int x4)]) : W p l e (zR 43) s m args below meth c H locs 0 0 (MQ below (zQi G K r h') args s 0 0 (zA G K)) (F0 m 0 ls []) := by
  obtain ⟨hx, hb, hml, hown, hts, hr, hlocks, hK, hST, hNs⟩ := id X
  unfold m_Acts_begin at hm
  refine lv_aload_n hx hb d_Acts_begin_0 rfl (lv_at hl 0 rfl) ?_
  refine lv_iload_n hx hb d_Acts_begin_1 rfl (lv_at hl 1 rfl) ?_
  obtain ⟨h2, hv, hm⟩ := zbd hm
  refine z_putI X hI P_Acts_19 hv d_Acts_begin_2 (fun H locs hI => ?_)
  refine lv_aload_n hx hb d_Acts_begin_5 rfl (lv_at hl 0 rfl) ?_
  refine lv_iload_n hx hb d_Acts_begin_6 rfl (lv_at hl 2 rfl) ?_
  obtain ⟨h7, hv, hm⟩ := zbd hm
  refine z_putI X hI P_Acts_22 hv d_Acts_begin_7 (fun H locs hI => ?_)
  refine lv_aload_n hx hb d_Acts_begin_10 rfl (lv_at hl 0 rfl) ?_
  refine lv_aload_n hx hb d_Acts_begin_11 rfl (lv_at hl 0 rfl) ?_
  obtain ⟨v12, hv, hm⟩ := zbd hm
  refine z_getI X hI F_Acts_19 hv d_Acts_begin_12 ?_
  refine lv_iload_n hx hb d_Acts_begin_15 rfl (lv_at hl 3 rfl) ?_
  refine lv_iload hx hb d_Acts_begin_16 (lv_at hl 4 rfl) ?_
  refine lv_iconst (v := (nI 0)) hx hb d_Acts_begin_18 (by decide) ?_
  obtain ⟨v19, h19, hv, hm⟩ := zb2_at hm
  obtain ⟨hq, hv⟩ := zcv_at hv
  refine z_ci hI (z_runV (As := [.int v12, .int x3, .int x4, .int (nI 0)]) (rest := []) X hI hl.1 (c_Acts_perform l G K 40 a0 v12 x3 x4 (nI 0) h7 _ _ hv) C_Acts_25 rfl hq (Nat.le_of_ble_eq_true rfl) ⟨Nat.le_of_ble_eq_true rfl, Nat.le_of_ble_eq_true rfl, Nat.zero_le _, Nat.zero_le _⟩ rfl d_Acts_begin_19) (fun H locs hI => ?_)
  obtain ⟨rfl, rfl⟩ := zs2 hm
  exact z_iret X hI d_Acts_begin_22
set_option maxHeartbeats 4000000 in
set_option maxRecDepth 100000 in
theorem c_Acts_begin (l : Launch) (G : zG) (K : Nat) (a0 : Nat) (x1 : Int32) (x2 : Int32) (x3 : Int32) (x4 : Int32) (h : zH) (r : Int32) (h' : zH) (hm : m_Acts_begin a0 x1 x2 x3 x4 h = some (r, h')) : zMi l G K y_Acts_begin prog_2_method_5_code 5 43 [.ref (G.1 a0), .int x1, .int x2, .int x3, .int x4] h r h' := zMet (by decide +kernel) (Nat.le_of_ble_eq_true rfl) (fun p e s m below meth c ls X hI hl => r_Acts_begin_0 X a0 x1 x2 x3 x4 h hm hI hl)
-- walk of AllHome.act
theorem d_Home_act_0 : decode prog_1_method_20_code 0 = .ok (.aload_n 0, 1) := by decide +kernel
theorem d_Home_act_1 : decode prog_1_method_20_code 1 = .ok (.getfield 47, 3) := by decide +kernel
theorem d_Home_act_4 : decode prog_1_method_20_code 4 = .ok (.invokevirtual 175, 3) := by decide +kernel
theorem d_Home_act_7 : decode prog_1_method_20_code 7 = .ok (.aload_n 0, 1) := by decide +kernel
theorem d_Home_act_8 : decode prog_1_method_20_code 8 = .ok (.iload_n 1, 1) := by decide +kernel
theorem d_Home_act_9 : decode prog_1_method_20_code 9 = .ok (.invokevirtual 99, 3) := by decide +kernel
theorem d_Home_act_12 : decode prog_1_method_20_code 12 = .ok (.ifCond .eq 12, 3) := by decide +kernel
theorem d_Home_act_15 : decode prog_1_method_20_code 15 = .ok (.iload_n 2, 1) := by decide +kernel
theorem d_Home_act_16 : decode prog_1_method_20_code 16 = .ok (.ifCond .lt 8, 3) := by decide +kernel
theorem d_Home_act_19 : decode prog_1_method_20_code 19 = .ok (.iload_n 2, 1) := by decide +kernel
theorem d_Home_act_20 : decode prog_1_method_20_code 20 = .ok (.iconst 4, 1) := by decide +kernel
theorem d_Home_act_21 : decode prog_1_method_20_code 21 = .ok (.if_icmp .lt 5, 3) := by decide +kernel
theorem d_Home_act_24 : decode prog_1_method_20_code 24 = .ok (.iconst 0, 1) := by decide +kernel
theorem d_Home_act_25 : decode prog_1_method_20_code 25 = .ok (.ireturn, 1) := by decide +kernel
theorem d_Home_act_26 : decode prog_1_method_20_code 26 = .ok (.aload_n 0, 1) := by decide +kernel
theorem d_Home_act_27 : decode prog_1_method_20_code 27 = .ok (.getfield 47, 3) := by decide +kernel
theorem d_Home_act_30 : decode prog_1_method_20_code 30 = .ok (.aload_n 0, 1) := by decide +kernel
theorem d_Home_act_31 : decode prog_1_method_20_code 31 = .ok (.getfield 20, 3) := by decide +kernel
theorem d_Home_act_34 : decode prog_1_method_20_code 34 = .ok (.iload_n 1, 1) := by decide +kernel
theorem d_Home_act_35 : decode prog_1_method_20_code 35 = .ok (.iaload, 1) := by decide +kernel
theorem d_Home_act_36 : decode prog_1_method_20_code 36 = .ok (.iload_n 1, 1) := by decide +kernel
theorem d_Home_act_37 : decode prog_1_method_20_code 37 = .ok (.iload_n 2, 1) := by decide +kernel
theorem d_Home_act_38 : decode prog_1_method_20_code 38 = .ok (.iload_n 3, 1) := by decide +kernel
theorem d_Home_act_39 : decode prog_1_method_20_code 39 = .ok (.invokevirtual 178, 3) := by decide +kernel
theorem d_Home_act_42 : decode prog_1_method_20_code 42 = .ok (.ireturn, 1) := by decide +kernel
set_option maxHeartbeats 4000000 in
set_option maxRecDepth 100000 in
theorem r_Home_act_0 {p : Program} {l : Launch} {e : Env} {s : State} {m : MethodId} {args : Array Value} {below : List Frame} {meth : Method} {c : Code} {G : zG} {K : Nat} (X : zX p s m args meth c "AllHome" prog_1_method_20_code 4 (some .int) G (zA G K)) {r : Int32} {h' : zH} (a0 : Nat) (x1 : Int32) (x2 : Int32) (x3 : Int32) (h : zH) (hm : m_Home_act a0 x1 x2 x3 h = some (r, h')) {H : Heap} {locs : List Loc} {ls : Array Slot} (hI : zI G K s (zA G K) H locs h) (hl : lv_has ls 4 [(0, .ref (G.1 a0)), (1, .int x1), (2, .int x2), (3, .int x3)]) : W p l e (zR 44) s m args below meth c H locs 0 0 (MQ below (zQi G K r h') args s 0 0 (zA G K)) (F0 m 0 ls []) := by
  obtain ⟨hx, hb, hml, hown, hts, hr, hlocks, hK, hST, hNs⟩ := id X
  unfold m_Home_act at hm
  refine lv_aload_n hx hb d_Home_act_0 rfl (lv_at hl 0 rfl) ?_
  obtain ⟨v1, hv, hm⟩ := zbd hm
  refine z_getR X hI F_Home_47 hv d_Home_act_1 ?_
  obtain ⟨h4, hv, hm⟩ := zbd hm
  obtain ⟨hq, hv⟩ := zcv_at hv
  refine z_cv hI (z_runV (As := []) (rest := []) X hI hl.1 (c_Acts_clear l G K v1 h _ hv) C_Home_175 rfl hq (Nat.le_of_ble_eq_true rfl) ⟨Nat.le_of_ble_eq_true rfl, Nat.le_of_ble_eq_true rfl, Nat.zero_le _, Nat.zero_le _⟩ rfl d_Home_act_4) (fun H locs hI => ?_)
  refine lv_aload_n hx hb d_Home_act_7 rfl (lv_at hl 0 rfl) ?_
  refine lv_iload_n hx hb d_Home_act_8 rfl (lv_at hl 1 rfl) ?_
  obtain ⟨v9, hv, hm⟩ := zbd hm
  obtain ⟨hq, hv⟩ := zcv_at hv
  refine z_ci hI (z_runV (As := [.int x1]) (rest := []) X hI hl.1 (c_Home_isWay l G K a0 x1 h4 _ hv) C_Home_99 rfl hq (Nat.le_of_ble_eq_true rfl) ⟨Nat.le_of_ble_eq_true rfl, Nat.le_of_ble_eq_true rfl, Nat.zero_le _, Nat.zero_le _⟩ rfl d_Home_act_9) (fun H locs hI => ?_)
  refine lv_if_eq (tgt := 24) hx hb d_Home_act_12 (by decide) (fun hc12 => ?_) (fun hc12 => ?_)
  · replace hm := zif_t hc12 hm
    refine lv_iconst (v := (nI 0)) hx hb d_Home_act_24 (by decide) ?_
    obtain ⟨rfl, rfl⟩ := zs2 hm
    exact z_iret X hI d_Home_act_25
  · replace hm := zif_f hc12 hm
    refine lv_iload_n hx hb d_Home_act_15 rfl (lv_at hl 2 rfl) ?_
    refine lv_if_lt (tgt := 24) hx hb d_Home_act_16 (by decide) (fun hc16 => ?_) (fun hc16 => ?_)
    · replace hm := zif_t hc16 hm
      refine lv_iconst (v := (nI 0)) hx hb d_Home_act_24 (by decide) ?_
      obtain ⟨rfl, rfl⟩ := zs2 hm
      exact z_iret X hI d_Home_act_25
    · replace hm := zif_f hc16 hm
      refine lv_iload_n hx hb d_Home_act_19 rfl (lv_at hl 2 rfl) ?_
      refine lv_iconst (v := (nI 4)) hx hb d_Home_act_20 (by decide) ?_
      refine lv_icmp_lt (tgt := 26) hx hb d_Home_act_21 (by decide) (fun hc21 => ?_) (fun hc21 => ?_)
      · replace hm := zif_t hc21 hm
        refine lv_aload_n hx hb d_Home_act_26 rfl (lv_at hl 0 rfl) ?_
        obtain ⟨v27, hv, hm⟩ := zbd hm
        refine z_getR X hI F_Home_47 hv d_Home_act_27 ?_
        refine lv_aload_n hx hb d_Home_act_30 rfl (lv_at hl 0 rfl) ?_
        obtain ⟨v31, hv, hm⟩ := zbd hm
        refine z_getR X hI F_Home_20 hv d_Home_act_31 ?_
        refine lv_iload_n hx hb d_Home_act_34 rfl (lv_at hl 1 rfl) ?_
        obtain ⟨v35, hv, hm⟩ := zbd hm
        refine z_iald X hI hv d_Home_act_35 ?_
        refine lv_iload_n hx hb d_Home_act_36 rfl (lv_at hl 1 rfl) ?_
        refine lv_iload_n hx hb d_Home_act_37 rfl (lv_at hl 2 rfl) ?_
        refine lv_iload_n hx hb d_Home_act_38 rfl (lv_at hl 3 rfl) ?_
        obtain ⟨v39, h39, hv, hm⟩ := zb2_at hm
        obtain ⟨hq, hv⟩ := zcv_at hv
        refine z_ci hI (z_runV (As := [.int v35, .int x1, .int x2, .int x3]) (rest := []) X hI hl.1 (c_Acts_begin l G K v27 v35 x1 x2 x3 h4 _ _ hv) C_Home_178 rfl hq (Nat.le_of_ble_eq_true rfl) ⟨Nat.le_of_ble_eq_true rfl, Nat.le_of_ble_eq_true rfl, Nat.zero_le _, Nat.zero_le _⟩ rfl d_Home_act_39) (fun H locs hI => ?_)
        obtain ⟨rfl, rfl⟩ := zs2 hm
        exact z_iret X hI d_Home_act_42
      · replace hm := zif_f hc21 hm
        refine lv_iconst (v := (nI 0)) hx hb d_Home_act_24 (by decide) ?_
        obtain ⟨rfl, rfl⟩ := zs2 hm
        exact z_iret X hI d_Home_act_25
set_option maxHeartbeats 4000000 in
set_option maxRecDepth 100000 in
theorem c_Home_act (l : Launch) (G : zG) (K : Nat) (a0 : Nat) (x1 : Int32) (x2 : Int32) (x3 : Int32) (h : zH) (r : Int32) (h' : zH) (hm : m_Home_act a0 x1 x2 x3 h = some (r, h')) : zMi l G K y_Home_act prog_1_method_20_code 4 44 [.ref (G.1 a0), .int x1, .int x2, .int x3] h r h' := zMet (by decide +kernel) (Nat.le_of_ble_eq_true rfl) (fun p e s m below meth c ls X hI hl => r_Home_act_0 X a0 x1 x2 x3 h hm hI hl)
-- walk of AllHome$Acts.traced
theorem d_Acts_traced_0 : decode prog_2_method_4_code 0 = .ok (.iload_n 1, 1) := by decide +kernel
theorem d_Acts_traced_1 : decode prog_2_method_4_code 1 = .ok (.ifCond .lt 26, 3) := by decide +kernel
theorem d_Acts_traced_4 : decode prog_2_method_4_code 4 = .ok (.iload_n 1, 1) := by decide +kernel
theorem d_Acts_traced_5 : decode prog_2_method_4_code 5 = .ok (.aload_n 0, 1) := by decide +kernel
theorem d_Acts_traced_6 : decode prog_2_method_4_code 6 = .ok (.getfield 15, 3) := by decide +kernel
theorem d_Acts_traced_9 : decode prog_2_method_4_code 9 = .ok (.if_icmp .ge 18, 3) := by decide +kernel
theorem d_Acts_traced_12 : decode prog_2_method_4_code 12 = .ok (.iload_n 1, 1) := by decide +kernel
theorem d_Acts_traced_13 : decode prog_2_method_4_code 13 = .ok (.bipush 24, 2) := by decide +kernel
theorem d_Acts_traced_15 : decode prog_2_method_4_code 15 = .ok (.if_icmp .ge 12, 3) := by decide +kernel
theorem d_Acts_traced_18 : decode prog_2_method_4_code 18 = .ok (.aload_n 0, 1) := by decide +kernel
theorem d_Acts_traced_19 : decode prog_2_method_4_code 19 = .ok (.getfield 11, 3) := by decide +kernel
theorem d_Acts_traced_22 : decode prog_2_method_4_code 22 = .ok (.iload_n 1, 1) := by decide +kernel
theorem d_Acts_traced_23 : decode prog_2_method_4_code 23 = .ok (.iaload, 1) := by decide +kernel
theorem d_Acts_traced_24 : decode prog_2_method_4_code 24 = .ok (.goto 4, 3) := by decide +kernel
theorem d_Acts_traced_27 : decode prog_2_method_4_code 27 = .ok (.iconst (-1), 1) := by decide +kernel
theorem d_Acts_traced_28 : decode prog_2_method_4_code 28 = .ok (.ireturn, 1) := by decide +kernel
set_option maxHeartbeats 4000000 in
set_option maxRecDepth 100000 in
theorem r_Acts_traced_0 {p : Program} {l : Launch} {e : Env} {s : State} {m : MethodId} {args : Array Value} {below : List Frame} {meth : Method} {c : Code} {G : zG} {K : Nat} (X : zX p s m args meth c "AllHome$Acts" prog_2_method_4_code 2 (some .int) G (zA G K)) {r : Int32} (a0 : Nat) (x1 : Int32) (h : zH) (hm : m_Acts_traced a0 x1 h = some r) {H : Heap} {locs : List Loc} {ls : Array Slot} (hI : zI G K s (zA G K) H locs h) (hl : lv_has ls 2 [(0, .ref (G.1 a0)), (1, .int x1)]) : W p l e (zR 0) s m args below meth c H locs 0 0 (MQ below (zQi G K r h) args s 0 0 (zA G K)) (F0 m 0 ls []) := by
  obtain ⟨hx, hb, hml, hown, hts, hr, hlocks, hK, hST, hNs⟩ := id X
  unfold m_Acts_traced at hm
  refine lv_iload_n hx hb d_Acts_traced_0 rfl (lv_at hl 1 rfl) ?_
  refine lv_if_lt (tgt := 27) hx hb d_Acts_traced_1 (by decide) (fun hc1 => ?_) (fun hc1 => ?_)
  · replace hm := zif_t hc1 hm
    refine lv_iconst (v := (-1 : Int32)) hx hb d_Acts_traced_27 (by decide) ?_
    obtain rfl := zs1 hm
    exact z_iret X hI d_Acts_traced_28
  · replace hm := zif_f hc1 hm
    refine lv_iload_n hx hb d_Acts_traced_4 rfl (lv_at hl 1 rfl) ?_
    refine lv_aload_n hx hb d_Acts_traced_5 rfl (lv_at hl 0 rfl) ?_
    obtain ⟨v6, hv, hm⟩ := zbd hm
    refine z_getI X hI F_Acts_15 hv d_Acts_traced_6 ?_
    refine lv_icmp_ge (tgt := 27) hx hb d_Acts_traced_9 (by decide) (fun hc9 => ?_) (fun hc9 => ?_)
    · replace hm := zif_t hc9 hm
      refine lv_iconst (v := (-1 : Int32)) hx hb d_Acts_traced_27 (by decide) ?_
      obtain rfl := zs1 hm
      exact z_iret X hI d_Acts_traced_28
    · replace hm := zif_f hc9 hm
      refine lv_iload_n hx hb d_Acts_traced_12 rfl (lv_at hl 1 rfl) ?_
      refine lv_bipush (v := (nI 24)) hx hb d_Acts_traced_13 (by decide) ?_
      refine lv_icmp_ge (tgt := 27) hx hb d_Acts_traced_15 (by decide) (fun hc15 => ?_) (fun hc15 => ?_)
      · replace hm := zif_t hc15 hm
        refine lv_iconst (v := (-1 : Int32)) hx hb d_Acts_traced_27 (by decide) ?_
        obtain rfl := zs1 hm
        exact z_iret X hI d_Acts_traced_28
      · replace hm := zif_f hc15 hm
        refine lv_aload_n hx hb d_Acts_traced_18 rfl (lv_at hl 0 rfl) ?_
        obtain ⟨v19, hv, hm⟩ := zbd hm
        refine z_getR X hI F_Acts_11 hv d_Acts_traced_19 ?_
        refine lv_iload_n hx hb d_Acts_traced_22 rfl (lv_at hl 1 rfl) ?_
        obtain ⟨v23, hv, hm⟩ := zbd hm
        refine z_iald X hI hv d_Acts_traced_23 ?_
        refine lv_goto (tgt := 28) hx hb d_Acts_traced_24 (by decide) ?_
        obtain rfl := zs1 hm
        exact z_iret X hI d_Acts_traced_28
set_option maxHeartbeats 4000000 in
set_option maxRecDepth 100000 in
theorem c_Acts_traced (l : Launch) (G : zG) (K : Nat) (a0 : Nat) (x1 : Int32) (h : zH) (r : Int32) (hm : m_Acts_traced a0 x1 h = some r) : zMi l G K y_Acts_traced prog_2_method_4_code 2 0 [.ref (G.1 a0), .int x1] h r h := zMet (by decide +kernel) (Nat.le_of_ble_eq_true rfl) (fun p e s m below meth c ls X hI hl => r_Acts_traced_0 X a0 x1 h hm hI hl)
-- walk of AllHome.trace
theorem d_Home_trace_0 : decode prog_1_method_21_code 0 = .ok (.aload_n 0, 1) := by decide +kernel
theorem d_Home_trace_1 : decode prog_1_method_21_code 1 = .ok (.getfield 47, 3) := by decide +kernel
theorem d_Home_trace_4 : decode prog_1_method_21_code 4 = .ok (.iload_n 1, 1) := by decide +kernel
theorem d_Home_trace_5 : decode prog_1_method_21_code 5 = .ok (.invokevirtual 181, 3) := by decide +kernel
theorem d_Home_trace_8 : decode prog_1_method_21_code 8 = .ok (.ireturn, 1) := by decide +kernel
set_option maxHeartbeats 4000000 in
set_option maxRecDepth 100000 in
theorem r_Home_trace_0 {p : Program} {l : Launch} {e : Env} {s : State} {m : MethodId} {args : Array Value} {below : List Frame} {meth : Method} {c : Code} {G : zG} {K : Nat} (X : zX p s m args meth c "AllHome" prog_1_method_21_code 2 (some .int) G (zA G K)) {r : Int32} (a0 : Nat) (x1 : Int32) (h : zH) (hm : m_Home_trace a0 x1 h = some r) {H : Heap} {locs : List Loc} {ls : Array Slot} (hI : zI G K s (zA G K) H locs h) (hl : lv_has ls 2 [(0, .ref (G.1 a0)), (1, .int x1)]) : W p l e (zR 1) s m args below meth c H locs 0 0 (MQ below (zQi G K r h) args s 0 0 (zA G K)) (F0 m 0 ls []) := by
  obtain ⟨hx, hb, hml, hown, hts, hr, hlocks, hK, hST, hNs⟩ := id X
  unfold m_Home_trace at hm
  refine lv_aload_n hx hb d_Home_trace_0 rfl (lv_at hl 0 rfl) ?_
  obtain ⟨v1, hv, hm⟩ := zbd hm
  refine z_getR X hI F_Home_47 hv d_Home_trace_1 ?_
  refine lv_iload_n hx hb d_Home_trace_4 rfl (lv_at hl 1 rfl) ?_
  obtain ⟨v5, hv, hm⟩ := zbd hm
  obtain ⟨hq, hv⟩ := zcv_at hv
  refine z_ci hI (z_runV (As := [.int x1]) (rest := []) X hI hl.1 (c_Acts_traced l G K v1 x1 h _ hv) C_Home_181 rfl hq (Nat.le_of_ble_eq_true rfl) ⟨Nat.le_of_ble_eq_true rfl, Nat.le_of_ble_eq_true rfl, Nat.zero_le _, Nat.zero_le _⟩ rfl d_Home_trace_5) (fun H locs hI => ?_)
  obtain rfl := zs1 hm
  exact z_iret X hI d_Home_trace_8
set_option maxHeartbeats 4000000 in
set_option maxRecDepth 100000 in
theorem c_Home_trace (l : Launch) (G : zG) (K : Nat) (a0 : Nat) (x1 : Int32) (h : zH) (r : Int32) (hm : m_Home_trace a0 x1 h = some r) : zMi l G K y_Home_trace prog_1_method_21_code 2 1 [.ref (G.1 a0), .int x1] h r h := zMet (by decide +kernel) (Nat.le_of_ble_eq_true rfl) (fun p e s m below meth c ls X hI hl => r_Home_trace_0 X a0 x1 h hm hI hl)
-- walk of AllHome$Shelf.holdWay
theorem d_Shelf_holdWay_0 : decode prog_7_method_2_code 0 = .ok (.aload_n 0, 1) := by decide +kernel
theorem d_Shelf_holdWay_1 : decode prog_7_method_2_code 1 = .ok (.iload_n 1, 1) := by decide +kernel
theorem d_Shelf_holdWay_2 : decode prog_7_method_2_code 2 = .ok (.putfield 19, 3) := by decide +kernel
theorem d_Shelf_holdWay_5 : decode prog_7_method_2_code 5 = .ok (.aload_n 0, 1) := by decide +kernel
theorem d_Shelf_holdWay_6 : decode prog_7_method_2_code 6 = .ok (.iconst (-1), 1) := by decide +kernel
theorem d_Shelf_holdWay_7 : decode prog_7_method_2_code 7 = .ok (.putfield 15, 3) := by decide +kernel
theorem d_Shelf_holdWay_10 : decode prog_7_method_2_code 10 = .ok (.aload_n 0, 1) := by decide +kernel
theorem d_Shelf_holdWay_11 : decode prog_7_method_2_code 11 = .ok (.iconst 0, 1) := by decide +kernel
theorem d_Shelf_holdWay_12 : decode prog_7_method_2_code 12 = .ok (.putfield 22, 3) := by decide +kernel
theorem d_Shelf_holdWay_15 : decode prog_7_method_2_code 15 = .ok (.return_, 1) := by decide +kernel
set_option maxHeartbeats 4000000 in
set_option maxRecDepth 100000 in
theorem r_Shelf_holdWay_0 {p : Program} {l : Launch} {e : Env} {s : State} {m : MethodId} {args : Array Value} {below : List Frame} {meth : Method} {c : Code} {G : zG} {K : Nat} (X : zX p s m args meth c "AllHome$Shelf" prog_7_method_2_code 2 none G (zA G K)) {h' : zH} (a0 : Nat) (x1 : Int32) (h : zH) (hm : m_Shelf_holdWay a0 x1 h = some h') {H : Heap} {locs : List Loc} {ls : Array Slot} (hI : zI G K s (zA G K) H locs h) (hl : lv_has ls 2 [(0, .ref (G.1 a0)), (1, .int x1)]) : W p l e (zR 0) s m args below meth c H locs 0 0 (MQ below (zQv G K h') args s 0 0 (zA G K)) (F0 m 0 ls []) := by
  obtain ⟨hx, hb, hml, hown, hts, hr, hlocks, hK, hST, hNs⟩ := id X
  unfold m_Shelf_holdWay at hm
  refine lv_aload_n hx hb d_Shelf_holdWay_0 rfl (lv_at hl 0 rfl) ?_
  refine lv_iload_n hx hb d_Shelf_holdWay_1 rfl (lv_at hl 1 rfl) ?_
  obtain ⟨h2, hv, hm⟩ := zbd hm
  refine z_putI X hI P_Shelf_19 hv d_Shelf_holdWay_2 (fun H locs hI => ?_)
  refine lv_aload_n hx hb d_Shelf_holdWay_5 rfl (lv_at hl 0 rfl) ?_
  refine lv_iconst (v := (-1 : Int32)) hx hb d_Shelf_holdWay_6 (by decide) ?_
  obtain ⟨h7, hv, hm⟩ := zbd hm
  refine z_putI X hI P_Shelf_15 hv d_Shelf_holdWay_7 (fun H locs hI => ?_)
  refine lv_aload_n hx hb d_Shelf_holdWay_10 rfl (lv_at hl 0 rfl) ?_
  refine lv_iconst (v := (nI 0)) hx hb d_Shelf_holdWay_11 (by decide) ?_
  obtain ⟨h12, hv, hm⟩ := zbd hm
  refine z_putI X hI P_Shelf_22 hv d_Shelf_holdWay_12 (fun H locs hI => ?_)
  obtain rfl := zs1 hm
  exact z_vret X hI d_Shelf_holdWay_15
set_option maxHeartbeats 4000000 in
set_option maxRecDepth 100000 in
theorem c_Shelf_holdWay (l : Launch) (G : zG) (K : Nat) (a0 : Nat) (x1 : Int32) (h : zH) (h' : zH) (hm : m_Shelf_holdWay a0 x1 h = some h') : zMv l G K y_Shelf_holdWay prog_7_method_2_code 2 0 [.ref (G.1 a0), .int x1] h h' := zMet (by decide +kernel) (Nat.le_of_ble_eq_true rfl) (fun p e s m below meth c ls X hI hl => r_Shelf_holdWay_0 X a0 x1 h hm hI hl)
-- walk of AllHome.keep
theorem d_Home_keep_0 : decode prog_1_method_22_code 0 = .ok (.iload_n 1, 1) := by decide +kernel
theorem d_Home_keep_1 : decode prog_1_method_22_code 1 = .ok (.invokestatic 113, 3) := by decide +kernel
theorem d_Home_keep_4 : decode prog_1_method_22_code 4 = .ok (.ifCond .eq 16, 3) := by decide +kernel
theorem d_Home_keep_7 : decode prog_1_method_22_code 7 = .ok (.iload_n 2, 1) := by decide +kernel
theorem d_Home_keep_8 : decode prog_1_method_22_code 8 = .ok (.iconst (-1), 1) := by decide +kernel
theorem d_Home_keep_9 : decode prog_1_method_22_code 9 = .ok (.if_icmp .eq 13, 3) := by decide +kernel
theorem d_Home_keep_12 : decode prog_1_method_22_code 12 = .ok (.aload_n 0, 1) := by decide +kernel
theorem d_Home_keep_13 : decode prog_1_method_22_code 13 = .ok (.iload_n 2, 1) := by decide +kernel
theorem d_Home_keep_14 : decode prog_1_method_22_code 14 = .ok (.invokevirtual 99, 3) := by decide +kernel
theorem d_Home_keep_17 : decode prog_1_method_22_code 17 = .ok (.ifCond .ne 5, 3) := by decide +kernel
theorem d_Home_keep_20 : decode prog_1_method_22_code 20 = .ok (.iconst (-1), 1) := by decide +kernel
theorem d_Home_keep_21 : decode prog_1_method_22_code 21 = .ok (.ireturn, 1) := by decide +kernel
theorem d_Home_keep_22 : decode prog_1_method_22_code 22 = .ok (.aload_n 0, 1) := by decide +kernel
theorem d_Home_keep_23 : decode prog_1_method_22_code 23 = .ok (.getfield 53, 3) := by decide +kernel
theorem d_Home_keep_26 : decode prog_1_method_22_code 26 = .ok (.iload_n 1, 1) := by decide +kernel
theorem d_Home_keep_27 : decode prog_1_method_22_code 27 = .ok (.aaload, 1) := by decide +kernel
theorem d_Home_keep_28 : decode prog_1_method_22_code 28 = .ok (.iload_n 2, 1) := by decide +kernel
theorem d_Home_keep_29 : decode prog_1_method_22_code 29 = .ok (.invokevirtual 184, 3) := by decide +kernel
theorem d_Home_keep_32 : decode prog_1_method_22_code 32 = .ok (.iconst 1, 1) := by decide +kernel
theorem d_Home_keep_33 : decode prog_1_method_22_code 33 = .ok (.ireturn, 1) := by decide +kernel
set_option maxHeartbeats 4000000 in
set_option maxRecDepth 100000 in
theorem r_Home_keep_0 {p : Program} {l : Launch} {e : Env} {s : State} {m : MethodId} {args : Array Value} {below : List Frame} {meth : Method} {c : Code} {G : zG} {K : Nat} (X : zX p s m args meth c "AllHome" prog_1_method_22_code 3 (some .int) G (zA G K)) {r : Int32} {h' : zH} (a0 : Nat) (x1 : Int32) (x2 : Int32) (h : zH) (hm : m_Home_keep a0 x1 x2 h = some (r, h')) {H : Heap} {locs : List Loc} {ls : Array Slot} (hI : zI G K s (zA G K) H locs h) (hl : lv_has ls 3 [(0, .ref (G.1 a0)), (1, .int x1), (2, .int x2)]) : W p l e (zR 1) s m args below meth c H locs 0 0 (MQ below (zQi G K r h') args s 0 0 (zA G K)) (F0 m 0 ls []) := by
  obtain ⟨hx, hb, hml, hown, hts, hr, hlocks, hK, hST, hNs⟩ := id X
  unfold m_Home_keep at hm
  refine lv_iload_n hx hb d_Home_keep_0 rfl (lv_at hl 1 rfl) ?_
  obtain ⟨v1, hv, hm⟩ := zbd hm
  refine z_ci hI (z_runS (As := [.int x1]) (rest := []) X hI hl.1 (c_Home_isShelf l G K x1 h _ hv) C_Home_113 rfl (Nat.le_of_ble_eq_true rfl) ⟨Nat.le_of_ble_eq_true rfl, Nat.le_of_ble_eq_true rfl, Nat.zero_le _, Nat.zero_le _⟩ rfl d_Home_keep_1) (fun H locs hI => ?_)
  refine lv_if_eq (tgt := 20) hx hb d_Home_keep_4 (by decide) (fun hc4 => ?_) (fun hc4 => ?_)
  · replace hm := zif_t hc4 hm
    refine lv_iconst (v := (-1 : Int32)) hx hb d_Home_keep_20 (by decide) ?_
    obtain ⟨rfl, rfl⟩ := zs2 hm
    exact z_iret X hI d_Home_keep_21
  · replace hm := zif_f hc4 hm
    refine lv_iload_n hx hb d_Home_keep_7 rfl (lv_at hl 2 rfl) ?_
    refine lv_iconst (v := (-1 : Int32)) hx hb d_Home_keep_8 (by decide) ?_
    refine lv_icmp_eq (tgt := 22) hx hb d_Home_keep_9 (by decide) (fun hc9 => ?_) (fun hc9 => ?_)
    · replace hm := zif_t hc9 hm
      refine lv_aload_n hx hb d_Home_keep_22 rfl (lv_at hl 0 rfl) ?_
      obtain ⟨v23, hv, hm⟩ := zbd hm
      refine z_getR X hI F_Home_53 hv d_Home_keep_23 ?_
      refine lv_iload_n hx hb d_Home_keep_26 rfl (lv_at hl 1 rfl) ?_
      obtain ⟨v27, hv, hm⟩ := zbd hm
      refine z_aald X hI 4 (.object "AllHome$Shelf") rfl rfl hv d_Home_keep_27 ?_
      refine lv_iload_n hx hb d_Home_keep_28 rfl (lv_at hl 2 rfl) ?_
      obtain ⟨h29, hv, hm⟩ := zbd hm
      obtain ⟨hq, hv⟩ := zcv_at hv
      refine z_cv hI (z_runV (As := [.int x2]) (rest := []) X hI hl.1 (c_Shelf_holdWay l G K v27 x2 h _ hv) C_Home_184 rfl hq (Nat.le_of_ble_eq_true rfl) ⟨Nat.le_of_ble_eq_true rfl, Nat.le_of_ble_eq_true rfl, Nat.zero_le _, Nat.zero_le _⟩ rfl d_Home_keep_29) (fun H locs hI => ?_)
      refine lv_iconst (v := (nI 1)) hx hb d_Home_keep_32 (by decide) ?_
      obtain ⟨rfl, rfl⟩ := zs2 hm
      exact z_iret X hI d_Home_keep_33
    · replace hm := zif_f hc9 hm
      refine lv_aload_n hx hb d_Home_keep_12 rfl (lv_at hl 0 rfl) ?_
      refine lv_iload_n hx hb d_Home_keep_13 rfl (lv_at hl 2 rfl) ?_
      obtain ⟨v14, hv, hm⟩ := zbd hm
      obtain ⟨hq, hv⟩ := zcv_at hv
      refine z_ci hI (z_runV (As := [.int x2]) (rest := []) X hI hl.1 (c_Home_isWay l G K a0 x2 h _ hv) C_Home_99 rfl hq (Nat.le_of_ble_eq_true rfl) ⟨Nat.le_of_ble_eq_true rfl, Nat.le_of_ble_eq_true rfl, Nat.zero_le _, Nat.zero_le _⟩ rfl d_Home_keep_14) (fun H locs hI => ?_)
      refine lv_if_ne (tgt := 22) hx hb d_Home_keep_17 (by decide) (fun hc17 => ?_) (fun hc17 => ?_)
      · replace hm := zif_f hc17 hm
        refine lv_aload_n hx hb d_Home_keep_22 rfl (lv_at hl 0 rfl) ?_
        obtain ⟨v23, hv, hm⟩ := zbd hm
        refine z_getR X hI F_Home_53 hv d_Home_keep_23 ?_
        refine lv_iload_n hx hb d_Home_keep_26 rfl (lv_at hl 1 rfl) ?_
        obtain ⟨v27, hv, hm⟩ := zbd hm
        refine z_aald X hI 4 (.object "AllHome$Shelf") rfl rfl hv d_Home_keep_27 ?_
        refine lv_iload_n hx hb d_Home_keep_28 rfl (lv_at hl 2 rfl) ?_
        obtain ⟨h29, hv, hm⟩ := zbd hm
        obtain ⟨hq, hv⟩ := zcv_at hv
        refine z_cv hI (z_runV (As := [.int x2]) (rest := []) X hI hl.1 (c_Shelf_holdWay l G K v27 x2 h _ hv) C_Home_184 rfl hq (Nat.le_of_ble_eq_true rfl) ⟨Nat.le_of_ble_eq_true rfl, Nat.le_of_ble_eq_true rfl, Nat.zero_le _, Nat.zero_le _⟩ rfl d_Home_keep_29) (fun H locs hI => ?_)
        refine lv_iconst (v := (nI 1)) hx hb d_Home_keep_32 (by decide) ?_
        obtain ⟨rfl, rfl⟩ := zs2 hm
        exact z_iret X hI d_Home_keep_33
      · replace hm := zif_t hc17 hm
        refine lv_iconst (v := (-1 : Int32)) hx hb d_Home_keep_20 (by decide) ?_
        obtain ⟨rfl, rfl⟩ := zs2 hm
        exact z_iret X hI d_Home_keep_21
set_option maxHeartbeats 4000000 in
set_option maxRecDepth 100000 in
theorem c_Home_keep (l : Launch) (G : zG) (K : Nat) (a0 : Nat) (x1 : Int32) (x2 : Int32) (h : zH) (r : Int32) (h' : zH) (hm : m_Home_keep a0 x1 x2 h = some (r, h')) : zMi l G K y_Home_keep prog_1_method_22_code 3 1 [.ref (G.1 a0), .int x1, .int x2] h r h' := zMet (by decide +kernel) (Nat.le_of_ble_eq_true rfl) (fun p e s m below meth c ls X hI hl => r_Home_keep_0 X a0 x1 x2 h hm hI hl)
-- walk of java/util/Arrays.fill
theorem d_Fill_J_0 : decode prog_12_method_101_code 0 = .ok (.iconst 0, 1) := by decide +kernel
theorem d_Fill_J_1 : decode prog_12_method_101_code 1 = .ok (.istore_n 3, 1) := by decide +kernel
theorem d_Fill_J_2 : decode prog_12_method_101_code 2 = .ok (.aload_n 0, 1) := by decide +kernel
theorem d_Fill_J_3 : decode prog_12_method_101_code 3 = .ok (.arraylength, 1) := by decide +kernel
theorem d_Fill_J_4 : decode prog_12_method_101_code 4 = .ok (.istore 4, 2) := by decide +kernel
theorem d_Fill_J_6 : decode prog_12_method_101_code 6 = .ok (.iload_n 3, 1) := by decide +kernel
theorem d_Fill_J_7 : decode prog_12_method_101_code 7 = .ok (.iload 4, 2) := by decide +kernel
theorem d_Fill_J_9 : decode prog_12_method_101_code 9 = .ok (.if_icmp .ge 13, 3) := by decide +kernel
theorem d_Fill_J_12 : decode prog_12_method_101_code 12 = .ok (.aload_n 0, 1) := by decide +kernel
theorem d_Fill_J_13 : decode prog_12_method_101_code 13 = .ok (.iload_n 3, 1) := by decide +kernel
theorem d_Fill_J_14 : decode prog_12_method_101_code 14 = .ok (.lload_n 1, 1) := by decide +kernel
theorem d_Fill_J_15 : decode prog_12_method_101_code 15 = .ok (.lastore, 1) := by decide +kernel
theorem d_Fill_J_16 : decode prog_12_method_101_code 16 = .ok (.iinc 3 1, 3) := by decide +kernel
theorem d_Fill_J_19 : decode prog_12_method_101_code 19 = .ok (.goto (-13), 3) := by decide +kernel
theorem d_Fill_J_22 : decode prog_12_method_101_code 22 = .ok (.return_, 1) := by decide +kernel
set_option maxHeartbeats 4000000 in
set_option maxRecDepth 100000 in
theorem r_Fill_J_6_b {p : Program} {l : Launch} {e : Env} {s : State} {m : MethodId} {args : Array Value} {below : List Frame} {meth : Method} {c : Code} {G : zG} {K : Nat} (X : zX p s m args meth c "java/util/Arrays" prog_12_method_101_code 5 none G (zA G K)) {h' : zH} (a0 : Nat) (x1 : Int64) (x4 : Int32) (k6 : (Int32 × zH) → Option zH) (hk6 : ∀ (w : Int32 × zH), k6 w = some h' → ∀ (H : Heap) (locs : List Loc) (ls : Array Slot), zI G K s (zA G K) H locs w.2 → lv_has ls 5 [(0, .ref (G.1 a0)), (1, .long x1), (3, .int w.1), (4, .int x4)] → W p l e (zR 0) s m args below meth c H locs 0 0 (MQ below (zQv G K h') args s 0 0 (zA G K)) (F0 m 6 ls [])) (u : Int32 × zH) (hm : g_Fill_J_6 a0 x1 x4 k6 u = some h') {H : Heap} {locs : List Loc} {ls : Array Slot} (hI : zI G K s (zA G K) H locs u.2) (hl : lv_has ls 5 [(0, .ref (G.1 a0)), (1, .long x1), (3, .int u.1), (4, .int x4)]) : W p l e (zR 0) s m args below meth c H locs 0 0 (MQ below (zQv G K h') args s 0 0 (zA G K)) (F0 m 6 ls []) := by
  obtain ⟨hx, hb, hml, hown, hts, hr, hlocks, hK, hST, hNs⟩ := id X
  unfold g_Fill_J_6 at hm
  refine lv_iload_n hx hb d_Fill_J_6 rfl (lv_at hl 2 rfl) ?_
  refine lv_iload hx hb d_Fill_J_7 (lv_at hl 3 rfl) ?_
  refine lv_icmp_ge (tgt := 22) hx hb d_Fill_J_9 (by decide) (fun hc9 => ?_) (fun hc9 => ?_)
  · replace hm := zif_t hc9 hm
    obtain rfl := zs1 hm
    exact z_vret X hI d_Fill_J_22
  · replace hm := zif_f hc9 hm
    refine lv_aload_n hx hb d_Fill_J_12 rfl (lv_at hl 0 rfl) ?_
    refine lv_iload_n hx hb d_Fill_J_13 rfl (lv_at hl 2 rfl) ?_
    refine lv_lload_n hx hb d_Fill_J_14 rfl (lv_at hl 1 rfl) ?_
    obtain ⟨h15, hv, hm⟩ := zbd hm
    refine z_last X hI hv d_Fill_J_15 (fun H locs hI => ?_)
    refine lv_iinc (v := (u.1 + (nI 1))) (lv' := [(3, .int (u.1 + (nI 1))), (0, .ref (G.1 a0)), (1, .long x1), (4, .int x4)]) hx hb d_Fill_J_16 hl (k := 2) rfl (congrArg (fun z => u.1 + z) (show Int32.ofInt (1) = (nI 1) by decide)) (by decide) rfl (fun ls hl => ?_)
    refine lv_goto (tgt := 6) hx hb d_Fill_J_19 (by decide) ?_
    obtain ⟨g0, e0⟩ : ∃ z, z = (u.1 + (nI 1)) := ⟨_, rfl⟩
    rw [← e0] at hm hl
    exact hk6 (g0, h15) hm _ _ _ hI (lv_sub hl [1, 2, 0, 3] rfl)
theorem r_Fill_J_6 {p : Program} {l : Launch} {e : Env} {s : State} {m : MethodId} {args : Array Value} {below : List Frame} {meth : Method} {c : Code} {G : zG} {K : Nat} (X : zX p s m args meth c "java/util/Arrays" prog_12_method_101_code 5 none G (zA G K)) {h' : zH} (a0 : Nat) (x1 : Int64) (x4 : Int32) : ∀ (n : Nat) (w : Int32 × zH), zloop (g_Fill_J_6 a0 x1 x4) n w = some h' → ∀ (H : Heap) (locs : List Loc) (ls : Array Slot), zI G K s (zA G K) H locs w.2 → lv_has ls 5 [(0, .ref (G.1 a0)), (1, .long x1), (3, .int w.1), (4, .int x4)] → W p l e (zR 0) s m args below meth c H locs 0 0 (MQ below (zQv G K h') args s 0 0 (zA G K)) (F0 m 6 ls []) := by
  intro n
  induction n with
  | zero => intro w hm; cases hm
  | succ n ih => intro w hm H locs ls hI hl; exact r_Fill_J_6_b X a0 x1 x4 (zloop (g_Fill_J_6 a0 x1 x4) n) ih w (zls hm) hI hl
set_option maxHeartbeats 4000000 in
set_option maxRecDepth 100000 in
theorem r_Fill_J_0 {p : Program} {l : Launch} {e : Env} {s : State} {m : MethodId} {args : Array Value} {below : List Frame} {meth : Method} {c : Code} {G : zG} {K : Nat} (X : zX p s m args meth c "java/util/Arrays" prog_12_method_101_code 5 none G (zA G K)) {h' : zH} (a0 : Nat) (x1 : Int64) (h : zH) (hm : m_Fill_J a0 x1 h = some h') {H : Heap} {locs : List Loc} {ls : Array Slot} (hI : zI G K s (zA G K) H locs h) (hl : lv_has ls 5 [(0, .ref (G.1 a0)), (1, .long x1)]) : W p l e (zR 0) s m args below meth c H locs 0 0 (MQ below (zQv G K h') args s 0 0 (zA G K)) (F0 m 0 ls []) := by
  obtain ⟨hx, hb, hml, hown, hts, hr, hlocks, hK, hST, hNs⟩ := id X
  unfold m_Fill_J at hm
  refine lv_iconst (v := (nI 0)) hx hb d_Fill_J_0 (by decide) ?_
  refine lv_istore_n (lv' := [(3, .int (nI 0)), (0, .ref (G.1 a0)), (1, .long x1)]) hx hb d_Fill_J_1 rfl hl (by decide) rfl (fun ls hl => ?_)
  refine lv_aload_n hx hb d_Fill_J_2 rfl (lv_at hl 1 rfl) ?_
  obtain ⟨v3, hv, hm⟩ := zbd hm
  refine z_alen X hI hv d_Fill_J_3 ?_
  refine lv_istore (lv' := [(4, .int v3), (3, .int (nI 0)), (0, .ref (G.1 a0)), (1, .long x1)]) hx hb d_Fill_J_4 hl (by decide) rfl (fun ls hl => ?_)
  exact r_Fill_J_6 X a0 x1 v3 zN ((nI 0), h) hm _ _ _ hI (lv_sub hl [2, 3, 1, 0] rfl)
set_option maxHeartbeats 4000000 in
set_option maxRecDepth 100000 in
theorem c_Fill_J (l : Launch) (G : zG) (K : Nat) (a0 : Nat) (x1 : Int64) (h : zH) (h' : zH) (hm : m_Fill_J a0 x1 h = some h') : zMv l G K y_Fill_J prog_12_method_101_code 5 0 [.ref (G.1 a0), .long x1] h h' := zMet (by decide +kernel) (Nat.le_of_ble_eq_true rfl) (fun p e s m below meth c ls X hI hl => r_Fill_J_0 X a0 x1 h hm hI hl)
-- walk of AllHome$Shelf.holdRow
theorem d_Shelf_holdRow_0 : decode prog_7_method_3_code 0 = .ok (.aload_n 0, 1) := by decide +kernel
theorem d_Shelf_holdRow_1 : decode prog_7_method_3_code 1 = .ok (.iconst (-1), 1) := by decide +kernel
theorem d_Shelf_holdRow_2 : decode prog_7_method_3_code 2 = .ok (.putfield 19, 3) := by decide +kernel
theorem d_Shelf_holdRow_5 : decode prog_7_method_3_code 5 = .ok (.aload_n 0, 1) := by decide +kernel
theorem d_Shelf_holdRow_6 : decode prog_7_method_3_code 6 = .ok (.iload_n 1, 1) := by decide +kernel
theorem d_Shelf_holdRow_7 : decode prog_7_method_3_code 7 = .ok (.putfield 15, 3) := by decide +kernel
theorem d_Shelf_holdRow_10 : decode prog_7_method_3_code 10 = .ok (.aload_n 0, 1) := by decide +kernel
theorem d_Shelf_holdRow_11 : decode prog_7_method_3_code 11 = .ok (.iconst 0, 1) := by decide +kernel
theorem d_Shelf_holdRow_12 : decode prog_7_method_3_code 12 = .ok (.iload_n 2, 1) := by decide +kernel
theorem d_Shelf_holdRow_13 : decode prog_7_method_3_code 13 = .ok (.bipush 60, 2) := by decide +kernel
theorem d_Shelf_holdRow_15 : decode prog_7_method_3_code 15 = .ok (.invokestatic 25, 3) := by decide +kernel
theorem d_Shelf_holdRow_18 : decode prog_7_method_3_code 18 = .ok (.invokestatic 31, 3) := by decide +kernel
theorem d_Shelf_holdRow_21 : decode prog_7_method_3_code 21 = .ok (.putfield 22, 3) := by decide +kernel
theorem d_Shelf_holdRow_24 : decode prog_7_method_3_code 24 = .ok (.aload_n 0, 1) := by decide +kernel
theorem d_Shelf_holdRow_25 : decode prog_7_method_3_code 25 = .ok (.getfield 11, 3) := by decide +kernel
theorem d_Shelf_holdRow_28 : decode prog_7_method_3_code 28 = .ok (.lconst 0, 1) := by decide +kernel
theorem d_Shelf_holdRow_29 : decode prog_7_method_3_code 29 = .ok (.invokestatic 34, 3) := by decide +kernel
theorem d_Shelf_holdRow_32 : decode prog_7_method_3_code 32 = .ok (.return_, 1) := by decide +kernel
set_option maxHeartbeats 4000000 in
set_option maxRecDepth 100000 in
theorem r_Shelf_holdRow_0 {p : Program} {l : Launch} {e : Env} {s : State} {m : MethodId} {args : Array Value} {below : List Frame} {meth : Method} {c : Code} {G : zG} {K : Nat} (X : zX p s m args meth c "AllHome$Shelf" prog_7_method_3_code 3 none G (zA G K)) {h' : zH} (a0 : Nat) (x1 : Int32) (x2 : Int32) (h : zH) (hm : m_Shelf_holdRow a0 x1 x2 h = some h') {H : Heap} {locs : List Loc} {ls : Array Slot} (hI : zI G K s (zA G K) H locs h) (hl : lv_has ls 3 [(0, .ref (G.1 a0)), (1, .int x1), (2, .int x2)]) : W p l e (zR 1) s m args below meth c H locs 0 0 (MQ below (zQv G K h') args s 0 0 (zA G K)) (F0 m 0 ls []) := by
  obtain ⟨hx, hb, hml, hown, hts, hr, hlocks, hK, hST, hNs⟩ := id X
  unfold m_Shelf_holdRow at hm
  refine lv_aload_n hx hb d_Shelf_holdRow_0 rfl (lv_at hl 0 rfl) ?_
  refine lv_iconst (v := (-1 : Int32)) hx hb d_Shelf_holdRow_1 (by decide) ?_
  obtain ⟨h2, hv, hm⟩ := zbd hm
  refine z_putI X hI P_Shelf_19 hv d_Shelf_holdRow_2 (fun H locs hI => ?_)
  refine lv_aload_n hx hb d_Shelf_holdRow_5 rfl (lv_at hl 0 rfl) ?_
  refine lv_iload_n hx hb d_Shelf_holdRow_6 rfl (lv_at hl 1 rfl) ?_
  obtain ⟨h7, hv, hm⟩ := zbd hm
  refine z_putI X hI P_Shelf_15 hv d_Shelf_holdRow_7 (fun H locs hI => ?_)
  refine lv_aload_n hx hb d_Shelf_holdRow_10 rfl (lv_at hl 0 rfl) ?_
  refine lv_iconst (v := (nI 0)) hx hb d_Shelf_holdRow_11 (by decide) ?_
  refine lv_iload_n hx hb d_Shelf_holdRow_12 rfl (lv_at hl 2 rfl) ?_
  refine lv_bipush (v := (nI 60)) hx hb d_Shelf_holdRow_13 (by decide) ?_
  refine va_mmin hx hb (hml.trans hl.1.symm) hown (hts _ kw600) (hts _ kw235) (hts _ kw9) (hts _ kw236) (Nat.le_of_ble_eq_true rfl) (Nat.le_of_ble_eq_true rfl) (Nat.zero_le _) (Nat.zero_le _) d_Shelf_holdRow_15 ?_
  refine va_mmax hx hb (hml.trans hl.1.symm) hown (hts _ kw601) (hts _ kw602) (hts _ kw9) (hts _ kw603) (Nat.le_of_ble_eq_true rfl) (Nat.le_of_ble_eq_true rfl) (Nat.zero_le _) (Nat.zero_le _) d_Shelf_holdRow_18 ?_
  obtain ⟨h21, hv, hm⟩ := zbd hm
  refine z_putI X hI P_Shelf_22 hv d_Shelf_holdRow_21 (fun H locs hI => ?_)
  refine lv_aload_n hx hb d_Shelf_holdRow_24 rfl (lv_at hl 0 rfl) ?_
  obtain ⟨v25, hv, hm⟩ := zbd hm
  refine z_getR X hI F_Shelf_11 hv d_Shelf_holdRow_25 ?_
  refine lv_lconst (v := 0) hx hb d_Shelf_holdRow_28 (by decide) ?_
  obtain ⟨h29, hv, hm⟩ := zbd hm
  refine z_cv hI (z_runS (As := [.ref (G.1 v25), .long (0 : Int64)]) (rest := []) X hI hl.1 (c_Fill_J l G K v25 (0 : Int64) h21 _ hv) C_Shelf_34 rfl (Nat.le_of_ble_eq_true rfl) ⟨Nat.le_of_ble_eq_true rfl, Nat.le_of_ble_eq_true rfl, Nat.zero_le _, Nat.zero_le _⟩ rfl d_Shelf_holdRow_29) (fun H locs hI => ?_)
  obtain rfl := zs1 hm
  exact z_vret X hI d_Shelf_holdRow_32
set_option maxHeartbeats 4000000 in
set_option maxRecDepth 100000 in
theorem c_Shelf_holdRow (l : Launch) (G : zG) (K : Nat) (a0 : Nat) (x1 : Int32) (x2 : Int32) (h : zH) (h' : zH) (hm : m_Shelf_holdRow a0 x1 x2 h = some h') : zMv l G K y_Shelf_holdRow prog_7_method_3_code 3 1 [.ref (G.1 a0), .int x1, .int x2] h h' := zMet (by decide +kernel) (Nat.le_of_ble_eq_true rfl) (fun p e s m below meth c ls X hI hl => r_Shelf_holdRow_0 X a0 x1 x2 h hm hI hl)
-- walk of AllHome.row
theorem d_Home_row_0 : decode prog_1_method_23_code 0 = .ok (.iload_n 1, 1) := by decide +kernel
theorem d_Home_row_1 : decode prog_1_method_23_code 1 = .ok (.invokestatic 113, 3) := by decide +kernel
theorem d_Home_row_4 : decode prog_1_method_23_code 4 = .ok (.ifCond .eq 18, 3) := by decide +kernel
theorem d_Home_row_7 : decode prog_1_method_23_code 7 = .ok (.iload_n 2, 1) := by decide +kernel
theorem d_Home_row_8 : decode prog_1_method_23_code 8 = .ok (.ifCond .lt 14, 3) := by decide +kernel
theorem d_Home_row_11 : decode prog_1_method_23_code 11 = .ok (.iload_n 2, 1) := by decide +kernel
theorem d_Home_row_12 : decode prog_1_method_23_code 12 = .ok (.iconst 4, 1) := by decide +kernel
theorem d_Home_row_13 : decode prog_1_method_23_code 13 = .ok (.if_icmp .gt 9, 3) := by decide +kernel
theorem d_Home_row_16 : decode prog_1_method_23_code 16 = .ok (.iload_n 3, 1) := by decide +kernel
theorem d_Home_row_17 : decode prog_1_method_23_code 17 = .ok (.bipush 60, 2) := by decide +kernel
theorem d_Home_row_19 : decode prog_1_method_23_code 19 = .ok (.if_icmp .le 5, 3) := by decide +kernel
theorem d_Home_row_22 : decode prog_1_method_23_code 22 = .ok (.iconst (-1), 1) := by decide +kernel
theorem d_Home_row_23 : decode prog_1_method_23_code 23 = .ok (.ireturn, 1) := by decide +kernel
theorem d_Home_row_24 : decode prog_1_method_23_code 24 = .ok (.iload_n 3, 1) := by decide +kernel
theorem d_Home_row_25 : decode prog_1_method_23_code 25 = .ok (.ifCond .ge 6, 3) := by decide +kernel
theorem d_Home_row_28 : decode prog_1_method_23_code 28 = .ok (.bipush (-14), 2) := by decide +kernel
theorem d_Home_row_30 : decode prog_1_method_23_code 30 = .ok (.ireturn, 1) := by decide +kernel
theorem d_Home_row_31 : decode prog_1_method_23_code 31 = .ok (.aload_n 0, 1) := by decide +kernel
theorem d_Home_row_32 : decode prog_1_method_23_code 32 = .ok (.getfield 53, 3) := by decide +kernel
theorem d_Home_row_35 : decode prog_1_method_23_code 35 = .ok (.iload_n 1, 1) := by decide +kernel
theorem d_Home_row_36 : decode prog_1_method_23_code 36 = .ok (.aaload, 1) := by decide +kernel
theorem d_Home_row_37 : decode prog_1_method_23_code 37 = .ok (.iload_n 2, 1) := by decide +kernel
theorem d_Home_row_38 : decode prog_1_method_23_code 38 = .ok (.iload_n 3, 1) := by decide +kernel
theorem d_Home_row_39 : decode prog_1_method_23_code 39 = .ok (.invokevirtual 187, 3) := by decide +kernel
theorem d_Home_row_42 : decode prog_1_method_23_code 42 = .ok (.iconst 1, 1) := by decide +kernel
theorem d_Home_row_43 : decode prog_1_method_23_code 43 = .ok (.ireturn, 1) := by decide +kernel
set_option maxHeartbeats 4000000 in
set_option maxRecDepth 100000 in
theorem r_Home_row_0 {p : Program} {l : Launch} {e : Env} {s : State} {m : MethodId} {args : Array Value} {below : List Frame} {meth : Method} {c : Code} {G : zG} {K : Nat} (X : zX p s m args meth c "AllHome" prog_1_method_23_code 4 (some .int) G (zA G K)) {r : Int32} {h' : zH} (a0 : Nat) (x1 : Int32) (x2 : Int32) (x3 : Int32) (h : zH) (hm : m_Home_row a0 x1 x2 x3 h = some (r, h')) {H : Heap} {locs : List Loc} {ls : Array Slot} (hI : zI G K s (zA G K) H locs h) (hl : lv_has ls 4 [(0, .ref (G.1 a0)), (1, .int x1), (2, .int x2), (3, .int x3)]) : W p l e (zR 2) s m args below meth c H locs 0 0 (MQ below (zQi G K r h') args s 0 0 (zA G K)) (F0 m 0 ls []) := by
  obtain ⟨hx, hb, hml, hown, hts, hr, hlocks, hK, hST, hNs⟩ := id X
  unfold m_Home_row at hm
  refine lv_iload_n hx hb d_Home_row_0 rfl (lv_at hl 1 rfl) ?_
  obtain ⟨v1, hv, hm⟩ := zbd hm
  refine z_ci hI (z_runS (As := [.int x1]) (rest := []) X hI hl.1 (c_Home_isShelf l G K x1 h _ hv) C_Home_113 rfl (Nat.le_of_ble_eq_true rfl) ⟨Nat.le_of_ble_eq_true rfl, Nat.le_of_ble_eq_true rfl, Nat.zero_le _, Nat.zero_le _⟩ rfl d_Home_row_1) (fun H locs hI => ?_)
  refine lv_if_eq (tgt := 22) hx hb d_Home_row_4 (by decide) (fun hc4 => ?_) (fun hc4 => ?_)
  · replace hm := zif_t hc4 hm
    refine lv_iconst (v := (-1 : Int32)) hx hb d_Home_row_22 (by decide) ?_
    obtain ⟨rfl, rfl⟩ := zs2 hm
    exact z_iret X hI d_Home_row_23
  · replace hm := zif_f hc4 hm
    refine lv_iload_n hx hb d_Home_row_7 rfl (lv_at hl 2 rfl) ?_
    refine lv_if_lt (tgt := 22) hx hb d_Home_row_8 (by decide) (fun hc8 => ?_) (fun hc8 => ?_)
    · replace hm := zif_t hc8 hm
      refine lv_iconst (v := (-1 : Int32)) hx hb d_Home_row_22 (by decide) ?_
      obtain ⟨rfl, rfl⟩ := zs2 hm
      exact z_iret X hI d_Home_row_23
    · replace hm := zif_f hc8 hm
      refine lv_iload_n hx hb d_Home_row_11 rfl (lv_at hl 2 rfl) ?_
      refine lv_iconst (v := (nI 4)) hx hb d_Home_row_12 (by decide) ?_
      refine lv_icmp_gt (tgt := 22) hx hb d_Home_row_13 (by decide) (fun hc13 => ?_) (fun hc13 => ?_)
      · replace hm := zif_t hc13 hm
        refine lv_iconst (v := (-1 : Int32)) hx hb d_Home_row_22 (by decide) ?_
        obtain ⟨rfl, rfl⟩ := zs2 hm
        exact z_iret X hI d_Home_row_23
      · replace hm := zif_f hc13 hm
        refine lv_iload_n hx hb d_Home_row_16 rfl (lv_at hl 3 rfl) ?_
        refine lv_bipush (v := (nI 60)) hx hb d_Home_row_17 (by decide) ?_
        refine lv_icmp_le (tgt := 24) hx hb d_Home_row_19 (by decide) (fun hc19 => ?_) (fun hc19 => ?_)
        · replace hm := zif_t hc19 hm
          refine lv_iload_n hx hb d_Home_row_24 rfl (lv_at hl 3 rfl) ?_
          refine lv_if_ge (tgt := 31) hx hb d_Home_row_25 (by decide) (fun hc25 => ?_) (fun hc25 => ?_)
          · replace hm := zif_t hc25 hm
            refine lv_aload_n hx hb d_Home_row_31 rfl (lv_at hl 0 rfl) ?_
            obtain ⟨v32, hv, hm⟩ := zbd hm
            refine z_getR X hI F_Home_53 hv d_Home_row_32 ?_
            refine lv_iload_n hx hb d_Home_row_35 rfl (lv_at hl 1 rfl) ?_
            obtain ⟨v36, hv, hm⟩ := zbd hm
            refine z_aald X hI 4 (.object "AllHome$Shelf") rfl rfl hv d_Home_row_36 ?_
            refine lv_iload_n hx hb d_Home_row_37 rfl (lv_at hl 2 rfl) ?_
            refine lv_iload_n hx hb d_Home_row_38 rfl (lv_at hl 3 rfl) ?_
            obtain ⟨h39, hv, hm⟩ := zbd hm
            obtain ⟨hq, hv⟩ := zcv_at hv
            refine z_cv hI (z_runV (As := [.int x2, .int x3]) (rest := []) X hI hl.1 (c_Shelf_holdRow l G K v36 x2 x3 h _ hv) C_Home_187 rfl hq (Nat.le_of_ble_eq_true rfl) ⟨Nat.le_of_ble_eq_true rfl, Nat.le_of_ble_eq_true rfl, Nat.zero_le _, Nat.zero_le _⟩ rfl d_Home_row_39) (fun H locs hI => ?_)
            refine lv_iconst (v := (nI 1)) hx hb d_Home_row_42 (by decide) ?_
            obtain ⟨rfl, rfl⟩ := zs2 hm
            exact z_iret X hI d_Home_row_43
          · replace hm := zif_f hc25 hm
            refine lv_bipush (v := (-14 : Int32)) hx hb d_Home_row_28 (by decide) ?_
            obtain ⟨rfl, rfl⟩ := zs2 hm
            exact z_iret X hI d_Home_row_30
        · replace hm := zif_f hc19 hm
          refine lv_iconst (v := (-1 : Int32)) hx hb d_Home_row_22 (by decide) ?_
          obtain ⟨rfl, rfl⟩ := zs2 hm
          exact z_iret X hI d_Home_row_23
set_option maxHeartbeats 4000000 in
set_option maxRecDepth 100000 in
theorem c_Home_row (l : Launch) (G : zG) (K : Nat) (a0 : Nat) (x1 : Int32) (x2 : Int32) (x3 : Int32) (h : zH) (r : Int32) (h' : zH) (hm : m_Home_row a0 x1 x2 x3 h = some (r, h')) : zMi l G K y_Home_row prog_1_method_23_code 4 2 [.ref (G.1 a0), .int x1, .int x2, .int x3] h r h' := zMet (by decide +kernel) (Nat.le_of_ble_eq_true rfl) (fun p e s m below meth c ls X hI hl => r_Home_row_0 X a0 x1 x2 x3 h hm hI hl)
