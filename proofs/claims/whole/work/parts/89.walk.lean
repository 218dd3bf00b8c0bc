-- walk of AllHomeModel.doStep
theorem d_Model_doStep_0 : decode prog_9_method_34_code 0 = .ok (.aload_n 0, 1) := by decide +kernel
theorem d_Model_doStep_1 : decode prog_9_method_34_code 1 = .ok (.iconst 0, 1) := by decide +kernel
theorem d_Model_doStep_2 : decode prog_9_method_34_code 2 = .ok (.putfield 143, 3) := by decide +kernel
theorem d_Model_doStep_5 : decode prog_9_method_34_code 5 = .ok (.iconst 0, 1) := by decide +kernel
theorem d_Model_doStep_6 : decode prog_9_method_34_code 6 = .ok (.istore_n 3, 1) := by decide +kernel
theorem d_Model_doStep_7 : decode prog_9_method_34_code 7 = .ok (.iload_n 1, 1) := by decide +kernel
theorem d_Model_doStep_8 : decode prog_9_method_34_code 8 = .ok (.tableswitch 68 0 3 #[32, 41, 50, 59], 32) := by decide +kernel
theorem d_Model_doStep_40 : decode prog_9_method_34_code 40 = .ok (.aload_n 0, 1) := by decide +kernel
theorem d_Model_doStep_41 : decode prog_9_method_34_code 41 = .ok (.iload_n 2, 1) := by decide +kernel
theorem d_Model_doStep_42 : decode prog_9_method_34_code 42 = .ok (.invokevirtual 188, 3) := by decide +kernel
theorem d_Model_doStep_45 : decode prog_9_method_34_code 45 = .ok (.istore_n 3, 1) := by decide +kernel
theorem d_Model_doStep_46 : decode prog_9_method_34_code 46 = .ok (.goto 59, 3) := by decide +kernel
theorem d_Model_doStep_49 : decode prog_9_method_34_code 49 = .ok (.aload_n 0, 1) := by decide +kernel
theorem d_Model_doStep_50 : decode prog_9_method_34_code 50 = .ok (.iload_n 2, 1) := by decide +kernel
theorem d_Model_doStep_51 : decode prog_9_method_34_code 51 = .ok (.invokevirtual 191, 3) := by decide +kernel
theorem d_Model_doStep_54 : decode prog_9_method_34_code 54 = .ok (.istore_n 3, 1) := by decide +kernel
theorem d_Model_doStep_55 : decode prog_9_method_34_code 55 = .ok (.goto 50, 3) := by decide +kernel
theorem d_Model_doStep_58 : decode prog_9_method_34_code 58 = .ok (.aload_n 0, 1) := by decide +kernel
theorem d_Model_doStep_59 : decode prog_9_method_34_code 59 = .ok (.iload_n 2, 1) := by decide +kernel
theorem d_Model_doStep_60 : decode prog_9_method_34_code 60 = .ok (.invokevirtual 194, 3) := by decide +kernel
theorem d_Model_doStep_63 : decode prog_9_method_34_code 63 = .ok (.istore_n 3, 1) := by decide +kernel
theorem d_Model_doStep_64 : decode prog_9_method_34_code 64 = .ok (.goto 41, 3) := by decide +kernel
theorem d_Model_doStep_67 : decode prog_9_method_34_code 67 = .ok (.aload_n 0, 1) := by decide +kernel
theorem d_Model_doStep_68 : decode prog_9_method_34_code 68 = .ok (.iload_n 2, 1) := by decide +kernel
theorem d_Model_doStep_69 : decode prog_9_method_34_code 69 = .ok (.invokevirtual 197, 3) := by decide +kernel
theorem d_Model_doStep_72 : decode prog_9_method_34_code 72 = .ok (.istore_n 3, 1) := by decide +kernel
theorem d_Model_doStep_73 : decode prog_9_method_34_code 73 = .ok (.goto 32, 3) := by decide +kernel
theorem d_Model_doStep_76 : decode prog_9_method_34_code 76 = .ok (.iload_n 2, 1) := by decide +kernel
theorem d_Model_doStep_77 : decode prog_9_method_34_code 77 = .ok (.ifCond .lt 15, 3) := by decide +kernel
theorem d_Model_doStep_80 : decode prog_9_method_34_code 80 = .ok (.iload_n 2, 1) := by decide +kernel
theorem d_Model_doStep_81 : decode prog_9_method_34_code 81 = .ok (.aload_n 0, 1) := by decide +kernel
theorem d_Model_doStep_82 : decode prog_9_method_34_code 82 = .ok (.invokevirtual 172, 3) := by decide +kernel
theorem d_Model_doStep_85 : decode prog_9_method_34_code 85 = .ok (.if_icmp .ge 7, 3) := by decide +kernel
theorem d_Model_doStep_88 : decode prog_9_method_34_code 88 = .ok (.iconst 1, 1) := by decide +kernel
theorem d_Model_doStep_89 : decode prog_9_method_34_code 89 = .ok (.goto 4, 3) := by decide +kernel
theorem d_Model_doStep_92 : decode prog_9_method_34_code 92 = .ok (.iconst 0, 1) := by decide +kernel
theorem d_Model_doStep_93 : decode prog_9_method_34_code 93 = .ok (.istore_n 3, 1) := by decide +kernel
theorem d_Model_doStep_94 : decode prog_9_method_34_code 94 = .ok (.iload_n 3, 1) := by decide +kernel
theorem d_Model_doStep_95 : decode prog_9_method_34_code 95 = .ok (.ifCond .eq 10, 3) := by decide +kernel
theorem d_Model_doStep_98 : decode prog_9_method_34_code 98 = .ok (.aload_n 0, 1) := by decide +kernel
theorem d_Model_doStep_99 : decode prog_9_method_34_code 99 = .ok (.bipush 36, 2) := by decide +kernel
theorem d_Model_doStep_101 : decode prog_9_method_34_code 101 = .ok (.iload_n 2, 1) := by decide +kernel
theorem d_Model_doStep_102 : decode prog_9_method_34_code 102 = .ok (.invokevirtual 176, 3) := by decide +kernel
theorem d_Model_doStep_105 : decode prog_9_method_34_code 105 = .ok (.iload_n 3, 1) := by decide +kernel
theorem d_Model_doStep_106 : decode prog_9_method_34_code 106 = .ok (.ifCond .ne 6, 3) := by decide +kernel
theorem d_Model_doStep_109 : decode prog_9_method_34_code 109 = .ok (.bipush (-5), 2) := by decide +kernel
theorem d_Model_doStep_111 : decode prog_9_method_34_code 111 = .ok (.ireturn, 1) := by decide +kernel
theorem d_Model_doStep_112 : decode prog_9_method_34_code 112 = .ok (.aload_n 0, 1) := by decide +kernel
theorem d_Model_doStep_113 : decode prog_9_method_34_code 113 = .ok (.invokevirtual 200, 3) := by decide +kernel
theorem d_Model_doStep_116 : decode prog_9_method_34_code 116 = .ok (.aload_n 0, 1) := by decide +kernel
theorem d_Model_doStep_117 : decode prog_9_method_34_code 117 = .ok (.getfield 143, 3) := by decide +kernel
theorem d_Model_doStep_120 : decode prog_9_method_34_code 120 = .ok (.ifCond .eq 8, 3) := by decide +kernel
theorem d_Model_doStep_123 : decode prog_9_method_34_code 123 = .ok (.bipush (-3), 2) := by decide +kernel
theorem d_Model_doStep_125 : decode prog_9_method_34_code 125 = .ok (.goto 4, 3) := by decide +kernel
theorem d_Model_doStep_128 : decode prog_9_method_34_code 128 = .ok (.iconst 1, 1) := by decide +kernel
theorem d_Model_doStep_129 : decode prog_9_method_34_code 129 = .ok (.ireturn, 1) := by decide +kernel
set_option maxHeartbeats 4000000 in
set_option maxRecDepth 100000 in
theorem r_Model_doStep_105 {p : Program} {l : Launch} {e : Env} {s : State} {m : MethodId} {args : Array Value} {below : List Frame} {meth : Method} {c : Code} {G : zG} {K : Nat} (X : zX p s m args meth c "AllHomeModel" prog_9_method_34_code 4 (some .int) G (zA G K)) {r : Int32} {h' : zH} (a0 : Nat) (x3 : Int32) (h : zH) (hm : g_Model_doStep_105 a0 x3 h = some (r, h')) {H : Heap} {locs : List Loc} {ls : Array Slot} (hI : zI G K s (zA G K) H locs h) (hl : lv_has ls 4 [(0, .ref (G.1 a0)), (3, .int x3)]) : W p l e (zR 4) s m args below meth c H locs 0 0 (MQ below (zQi G K r h') args s 0 0 (zA G K)) (F0 m 105 ls []) := by
  obtain ⟨hx, hb, hml, hown, hts, hr, hlocks, hK, hST, hNs⟩ := id X
  unfold g_Model_doStep_105 at hm
  refine lv_iload_n hx hb d_Model_doStep_105 rfl (lv_at hl 1 rfl) ?_
  refine lv_if_ne (tgt := 112) hx hb d_Model_doStep_106 (by decide) (fun hc106 => ?_) (fun hc106 => ?_)
  · replace hm := zif_f hc106 hm
    refine lv_aload_n hx hb d_Model_doStep_112 rfl (lv_at hl 0 rfl) ?_
    obtain ⟨h113, hv, hm⟩ := zbd hm
    obtain ⟨hq, hv⟩ := zcv_at hv
    refine z_cv hI (z_runV (As := []) (rest := []) X hI hl.1 (c_Model_behind l G K a0 h _ hv) C_Model_200 rfl hq (Nat.le_of_ble_eq_true rfl) ⟨Nat.le_of_ble_eq_true rfl, Nat.le_of_ble_eq_true rfl, Nat.zero_le _, Nat.zero_le _⟩ rfl d_Model_doStep_113) (fun H locs hI => ?_)
    refine lv_aload_n hx hb d_Model_doStep_116 rfl (lv_at hl 0 rfl) ?_
    obtain ⟨v117, hv, hm⟩ := zbd hm
    refine z_getI X hI F_Model_143 hv d_Model_doStep_117 ?_
    refine lv_if_eq (tgt := 128) hx hb d_Model_doStep_120 (by decide) (fun hc120 => ?_) (fun hc120 => ?_)
    · replace hm := zif_t hc120 hm
      refine lv_iconst (v := (nI 1)) hx hb d_Model_doStep_128 (by decide) ?_
      obtain ⟨rfl, rfl⟩ := zs2 hm
      exact z_iret X hI d_Model_doStep_129
    · replace hm := zif_f hc120 hm
      refine lv_bipush (v := (-3 : Int32)) hx hb d_Model_doStep_123 (by decide) ?_
      refine lv_goto (tgt := 129) hx hb d_Model_doStep_125 (by decide) ?_
      obtain ⟨rfl, rfl⟩ := zs2 hm
      exact z_iret X hI d_Model_doStep_129
  · replace hm := zif_t hc106 hm
    refine lv_bipush (v := (-5 : Int32)) hx hb d_Model_doStep_109 (by decide) ?_
    obtain ⟨rfl, rfl⟩ := zs2 hm
    exact z_iret X hI d_Model_doStep_111
set_option maxHeartbeats 4000000 in
set_option maxRecDepth 100000 in
theorem r_Model_doStep_92 {p : Program} {l : Launch} {e : Env} {s : State} {m : MethodId} {args : Array Value} {below : List Frame} {meth : Method} {c : Code} {G : zG} {K : Nat} (X : zX p s m args meth c "AllHomeModel" prog_9_method_34_code 4 (some .int) G (zA G K)) {r : Int32} {h' : zH} (a0 : Nat) (x2 : Int32) (h : zH) (hm : g_Model_doStep_92 a0 x2 h = some (r, h')) {H : Heap} {locs : List Loc} {ls : Array Slot} (hI : zI G K s (zA G K) H locs h) (hl : lv_has ls 4 [(0, .ref (G.1 a0)), (2, .int x2)]) : W p l e (zR 4) s m args below meth c H locs 0 0 (MQ below (zQi G K r h') args s 0 0 (zA G K)) (F0 m 92 ls []) := by
  obtain ⟨hx, hb, hml, hown, hts, hr, hlocks, hK, hST, hNs⟩ := id X
  unfold g_Model_doStep_92 at hm
  refine lv_iconst (v := (nI 0)) hx hb d_Model_doStep_92 (by decide) ?_
  refine lv_istore_n (lv' := [(3, .int (nI 0)), (0, .ref (G.1 a0)), (2, .int x2)]) hx hb d_Model_doStep_93 rfl hl (by decide) rfl (fun ls hl => ?_)
  refine lv_iload_n hx hb d_Model_doStep_94 rfl (lv_at hl 0 rfl) ?_
  refine lv_if_eq (tgt := 105) hx hb d_Model_doStep_95 (by decide) (fun hc95 => ?_) (fun hc95 => ?_)
  · replace hm := zif_t hc95 hm
    exact r_Model_doStep_105 X a0 (nI 0) h hm hI (lv_sub hl [1, 0] rfl)
  · replace hm := zif_f hc95 hm
    refine lv_aload_n hx hb d_Model_doStep_98 rfl (lv_at hl 1 rfl) ?_
    refine lv_bipush (v := (nI 36)) hx hb d_Model_doStep_99 (by decide) ?_
    refine lv_iload_n hx hb d_Model_doStep_101 rfl (lv_at hl 2 rfl) ?_
    obtain ⟨h102, hv, hm⟩ := zbd hm
    obtain ⟨hq, hv⟩ := zcv_at hv
    refine z_cv hI (z_runV (As := [.int (nI 36), .int x2]) (rest := []) X hI hl.1 (c_Model_takeOut l G K a0 (nI 36) x2 h _ hv) C_Model_176 rfl hq (Nat.le_of_ble_eq_true rfl) ⟨Nat.le_of_ble_eq_true rfl, Nat.le_of_ble_eq_true rfl, Nat.zero_le _, Nat.zero_le _⟩ rfl d_Model_doStep_102) (fun H locs hI => ?_)
    exact r_Model_doStep_105 X a0 (nI 0) h102 hm hI (lv_sub hl [1, 0] rfl)
set_option maxHeartbeats 4000000 in
set_option maxRecDepth 100000 in
theorem r_Model_doStep_0 {p : Program} {l : Launch} {e : Env} {s : State} {m : MethodId} {args : Array Value} {below : List Frame} {meth : Method} {c : Code} {G : zG} {K : Nat} (X : zX p s m args meth c "AllHomeModel" prog_9_method_34_code 4 (some .int) G (zA G K)) {r : Int32} {h' : zH} (a0 : Nat) (x1 : Int32) (x2 : Int32) (h : zH) (hm : m_Model_doStep a0 x1 x2 h = some (r, h')) {H : Heap} {locs : List Loc} {ls : Array Slot} (hI : zI G K s (zA G K) H locs h) (hl : lv_has ls 4 [(0, .ref (G.1 a0)), (1, .int x1), (2, .int x2)]) : W p l e (zR 4) s m args below meth c H locs 0 0 (MQ below (zQi G K r h') args s 0 0 (zA G K)) (F0 m 0 ls []) := by
  obtain ⟨hx, hb, hml, hown, hts, hr, hlocks, hK, hST, hNs⟩ := id X
  unfold m_Model_doStep at hm
  refine lv_aload_n hx hb d_Model_doStep_0 rfl (lv_at hl 0 rfl) ?_
  refine lv_iconst (v := (nI 0)) hx hb d_Model_doStep_1 (by decide) ?_
  obtain ⟨h2, hv, hm⟩ := zbd hm
  refine z_putZ X hI P_Model_143 hv d_Model_doStep_2 (fun H locs hI => ?_)
  refine lv_iconst (v := (nI 0)) hx hb d_Model_doStep_5 (by decide) ?_
  refine lv_istore_n (lv' := [(3, .int (nI 0)), (0, .ref (G.1 a0)), (1, .int x1), (2, .int x2)]) hx hb d_Model_doStep_6 rfl hl (by decide) rfl (fun ls hl => ?_)
  refine lv_iload_n hx hb d_Model_doStep_7 rfl (lv_at hl 2 rfl) ?_
  by_cases hs8_0 : x1 = (nI 0)
  · replace hm := zif_t hs8_0 hm
    refine lv_tableIn (off := 32) (tgt := 40) hx hb d_Model_doStep_8 (by rw [hs8_0]; decide) (by rw [hs8_0]; decide) (by rw [hs8_0]; rfl) (by decide) ?_
    refine lv_aload_n hx hb d_Model_doStep_40 rfl (lv_at hl 1 rfl) ?_
    refine lv_iload_n hx hb d_Model_doStep_41 rfl (lv_at hl 3 rfl) ?_
    obtain ⟨v42, h42, hv, hm⟩ := zb2_at hm
    obtain ⟨hq, hv⟩ := zcv_at hv
    refine z_ci hI (z_runV (As := [.int x2]) (rest := []) X hI hl.1 (c_Model_goOn l G K a0 x2 h2 _ _ hv) C_Model_188 rfl hq (Nat.le_of_ble_eq_true rfl) ⟨Nat.le_of_ble_eq_true rfl, Nat.le_of_ble_eq_true rfl, Nat.zero_le _, Nat.zero_le _⟩ rfl d_Model_doStep_42) (fun H locs hI => ?_)
    refine lv_istore_n (lv' := [(3, .int v42), (0, .ref (G.1 a0)), (1, .int x1), (2, .int x2)]) hx hb d_Model_doStep_45 rfl hl (by decide) rfl (fun ls hl => ?_)
    refine lv_goto (tgt := 105) hx hb d_Model_doStep_46 (by decide) ?_
    exact r_Model_doStep_105 X a0 v42 h42 hm hI (lv_sub hl [1, 0] rfl)
  · replace hm := zif_f hs8_0 hm
    by_cases hs8_1 : x1 = (nI 1)
    · replace hm := zif_t hs8_1 hm
      refine lv_tableIn (off := 41) (tgt := 49) hx hb d_Model_doStep_8 (by rw [hs8_1]; decide) (by rw [hs8_1]; decide) (by rw [hs8_1]; rfl) (by decide) ?_
      refine lv_aload_n hx hb d_Model_doStep_49 rfl (lv_at hl 1 rfl) ?_
      refine lv_iload_n hx hb d_Model_doStep_50 rfl (lv_at hl 3 rfl) ?_
      obtain ⟨v51, h51, hv, hm⟩ := zb2_at hm
      obtain ⟨hq, hv⟩ := zcv_at hv
      refine z_ci hI (z_runV (As := [.int x2]) (rest := []) X hI hl.1 (c_Model_comes l G K a0 x2 h2 _ _ hv) C_Model_191 rfl hq (Nat.le_of_ble_eq_true rfl) ⟨Nat.le_of_ble_eq_true rfl, Nat.le_of_ble_eq_true rfl, Nat.zero_le _, Nat.zero_le _⟩ rfl d_Model_doStep_51) (fun H locs hI => ?_)
      refine lv_istore_n (lv' := [(3, .int v51), (0, .ref (G.1 a0)), (1, .int x1), (2, .int x2)]) hx hb d_Model_doStep_54 rfl hl (by decide) rfl (fun ls hl => ?_)
      refine lv_goto (tgt := 105) hx hb d_Model_doStep_55 (by decide) ?_
      exact r_Model_doStep_105 X a0 v51 h51 hm hI (lv_sub hl [1, 0] rfl)
    · replace hm := zif_f hs8_1 hm
      by_cases hs8_2 : x1 = (nI 2)
      · replace hm := zif_t hs8_2 hm
        refine lv_tableIn (off := 50) (tgt := 58) hx hb d_Model_doStep_8 (by rw [hs8_2]; decide) (by rw [hs8_2]; decide) (by rw [hs8_2]; rfl) (by decide) ?_
        refine lv_aload_n hx hb d_Model_doStep_58 rfl (lv_at hl 1 rfl) ?_
        refine lv_iload_n hx hb d_Model_doStep_59 rfl (lv_at hl 3 rfl) ?_
        obtain ⟨v60, h60, hv, hm⟩ := zb2_at hm
        obtain ⟨hq, hv⟩ := zcv_at hv
        refine z_ci hI (z_runV (As := [.int x2]) (rest := []) X hI hl.1 (c_Model_noteComes l G K a0 x2 h2 _ _ hv) C_Model_194 rfl hq (Nat.le_of_ble_eq_true rfl) ⟨Nat.le_of_ble_eq_true rfl, Nat.le_of_ble_eq_true rfl, Nat.zero_le _, Nat.zero_le _⟩ rfl d_Model_doStep_60) (fun H locs hI => ?_)
        refine lv_istore_n (lv' := [(3, .int v60), (0, .ref (G.1 a0)), (1, .int x1), (2, .int x2)]) hx hb d_Model_doStep_63 rfl hl (by decide) rfl (fun ls hl => ?_)
        refine lv_goto (tgt := 105) hx hb d_Model_doStep_64 (by decide) ?_
        exact r_Model_doStep_105 X a0 v60 h60 hm hI (lv_sub hl [1, 0] rfl)
      · replace hm := zif_f hs8_2 hm
        by_cases hs8_3 : x1 = (nI 3)
        · replace hm := zif_t hs8_3 hm
          refine lv_tableIn (off := 59) (tgt := 67) hx hb d_Model_doStep_8 (by rw [hs8_3]; decide) (by rw [hs8_3]; decide) (by rw [hs8_3]; rfl) (by decide) ?_
          refine lv_aload_n hx hb d_Model_doStep_67 rfl (lv_at hl 1 rfl) ?_
          refine lv_iload_n hx hb d_Model_doStep_68 rfl (lv_at hl 3 rfl) ?_
          obtain ⟨v69, h69, hv, hm⟩ := zb2_at hm
          obtain ⟨hq, hv⟩ := zcv_at hv
          refine z_ci hI (z_runV (As := [.int x2]) (rest := []) X hI hl.1 (c_Model_asks l G K a0 x2 h2 _ _ hv) C_Model_197 rfl hq (Nat.le_of_ble_eq_true rfl) ⟨Nat.le_of_ble_eq_true rfl, Nat.le_of_ble_eq_true rfl, Nat.zero_le _, Nat.zero_le _⟩ rfl d_Model_doStep_69) (fun H locs hI => ?_)
          refine lv_istore_n (lv' := [(3, .int v69), (0, .ref (G.1 a0)), (1, .int x1), (2, .int x2)]) hx hb d_Model_doStep_72 rfl hl (by decide) rfl (fun ls hl => ?_)
          refine lv_goto (tgt := 105) hx hb d_Model_doStep_73 (by decide) ?_
          exact r_Model_doStep_105 X a0 v69 h69 hm hI (lv_sub hl [1, 0] rfl)
        · replace hm := zif_f hs8_3 hm
          have he0 : (x1).toInt ≠ 0 := fun q => hs8_0 (Int32.toInt_inj.mp (q.trans (by decide)))
          have he1 : (x1).toInt ≠ 1 := fun q => hs8_1 (Int32.toInt_inj.mp (q.trans (by decide)))
          have he2 : (x1).toInt ≠ 2 := fun q => hs8_2 (Int32.toInt_inj.mp (q.trans (by decide)))
          have he3 : (x1).toInt ≠ 3 := fun q => hs8_3 (Int32.toInt_inj.mp (q.trans (by decide)))
          refine lv_tableOut (tgt := 76) hx hb d_Model_doStep_8 (by omega) (by decide) ?_
          refine lv_iload_n hx hb d_Model_doStep_76 rfl (lv_at hl 3 rfl) ?_
          refine lv_if_lt (tgt := 92) hx hb d_Model_doStep_77 (by decide) (fun hc77 => ?_) (fun hc77 => ?_)
          · replace hm := zif_t hc77 hm
            exact r_Model_doStep_92 X a0 x2 h2 hm hI (lv_sub hl [1, 3] rfl)
          · replace hm := zif_f hc77 hm
            refine lv_iload_n hx hb d_Model_doStep_80 rfl (lv_at hl 3 rfl) ?_
            refine lv_aload_n hx hb d_Model_doStep_81 rfl (lv_at hl 1 rfl) ?_
            obtain ⟨v82, hv, hm⟩ := zbd hm
            obtain ⟨hq, hv⟩ := zcv_at hv
            refine z_ci hI (z_runV (As := []) (rest := [.int x2]) X hI hl.1 (c_Model_words l G K a0 h2 _ hv) C_Model_172 rfl hq (Nat.le_of_ble_eq_true rfl) ⟨Nat.le_of_ble_eq_true rfl, Nat.le_of_ble_eq_true rfl, Nat.zero_le _, Nat.zero_le _⟩ rfl d_Model_doStep_82) (fun H locs hI => ?_)
            refine lv_icmp_ge (tgt := 92) hx hb d_Model_doStep_85 (by decide) (fun hc85 => ?_) (fun hc85 => ?_)
            · replace hm := zif_t hc85 hm
              exact r_Model_doStep_92 X a0 x2 h2 hm hI (lv_sub hl [1, 3] rfl)
            · replace hm := zif_f hc85 hm
              refine lv_iconst (v := (nI 1)) hx hb d_Model_doStep_88 (by decide) ?_
              refine lv_goto (tgt := 93) hx hb d_Model_doStep_89 (by decide) ?_
              refine lv_istore_n (lv' := [(3, .int (nI 1)), (0, .ref (G.1 a0)), (1, .int x1), (2, .int x2)]) hx hb d_Model_doStep_93 rfl hl (by decide) rfl (fun ls hl => ?_)
              refine lv_iload_n hx hb d_Model_doStep_94 rfl (lv_at hl 0 rfl) ?_
              refine lv_if_eq (tgt := 105) hx hb d_Model_doStep_95 (by decide) (fun hc95 => ?_) (fun hc95 => ?_)
              · replace hm := zif_t hc95 hm
                exact r_Model_doStep_105 X a0 (nI 1) h2 hm hI (lv_sub hl [1, 0] rfl)
              · replace hm := zif_f hc95 hm
                refine lv_aload_n hx hb d_Model_doStep_98 rfl (lv_at hl 1 rfl) ?_
                refine lv_bipush (v := (nI 36)) hx hb d_Model_doStep_99 (by decide) ?_
                refine lv_iload_n hx hb d_Model_doStep_101 rfl (lv_at hl 3 rfl) ?_
                obtain ⟨h102, hv, hm⟩ := zbd hm
                obtain ⟨hq, hv⟩ := zcv_at hv
                refine z_cv hI (z_runV (As := [.int (nI 36), .int x2]) (rest := []) X hI hl.1 (c_Model_takeOut l G K a0 (nI 36) x2 h2 _ hv) C_Model_176 rfl hq (Nat.le_of_ble_eq_true rfl) ⟨Nat.le_of_ble_eq_true rfl, Nat.le_of_ble_eq_true rfl, Nat.zero_le _, Nat.zero_le _⟩ rfl d_Model_doStep_102) (fun H locs hI => ?_)
                exact r_Model_doStep_105 X a0 (nI 1) h102 hm hI (lv_sub hl [1, 0] rfl)
set_option maxHeartbeats 4000000 in
set_option maxRecDepth 100000 in
theorem c_Model_doStep (l : Launch) (G : zG) (K : Nat) (a0 : Nat) (x1 : Int32) (x2 : Int32) (h : zH) (r : Int32) (h' : zH) (hm : m_Model_doStep a0 x1 x2 h = some (r, h')) : zMi l G K y_Model_doStep prog_9_method_34_code 4 4 [.ref (G.1 a0), .int x1, .int x2] h r h' := zMet (by decide +kernel) (Nat.le_of_ble_eq_true rfl) (fun p e s m below meth c ls X hI hl => r_Model_doStep_0 X a0 x1 x2 h hm hI hl)
-- walk of AllHomeModel.isOver
theorem d_Model_isOver_0 : decode prog_9_method_35_code 0 = .ok (.aload_n 0, 1) := by decide +kernel
theorem d_Model_isOver_1 : decode prog_9_method_35_code 1 = .ok (.invokevirtual 172, 3) := by decide +kernel
theorem d_Model_isOver_4 : decode prog_9_method_35_code 4 = .ok (.ifCond .ne 7, 3) := by decide +kernel
theorem d_Model_isOver_7 : decode prog_9_method_35_code 7 = .ok (.iconst 1, 1) := by decide +kernel
theorem d_Model_isOver_8 : decode prog_9_method_35_code 8 = .ok (.goto 4, 3) := by decide +kernel
theorem d_Model_isOver_11 : decode prog_9_method_35_code 11 = .ok (.iconst 0, 1) := by decide +kernel
theorem d_Model_isOver_12 : decode prog_9_method_35_code 12 = .ok (.istore_n 1, 1) := by decide +kernel
theorem d_Model_isOver_13 : decode prog_9_method_35_code 13 = .ok (.iconst 0, 1) := by decide +kernel
theorem d_Model_isOver_14 : decode prog_9_method_35_code 14 = .ok (.istore_n 2, 1) := by decide +kernel
theorem d_Model_isOver_15 : decode prog_9_method_35_code 15 = .ok (.iload_n 2, 1) := by decide +kernel
theorem d_Model_isOver_16 : decode prog_9_method_35_code 16 = .ok (.aload_n 0, 1) := by decide +kernel
theorem d_Model_isOver_17 : decode prog_9_method_35_code 17 = .ok (.getfield 78, 3) := by decide +kernel
theorem d_Model_isOver_20 : decode prog_9_method_35_code 20 = .ok (.if_icmp .ge 28, 3) := by decide +kernel
theorem d_Model_isOver_23 : decode prog_9_method_35_code 23 = .ok (.iload_n 1, 1) := by decide +kernel
theorem d_Model_isOver_24 : decode prog_9_method_35_code 24 = .ok (.ifCond .eq 16, 3) := by decide +kernel
theorem d_Model_isOver_27 : decode prog_9_method_35_code 27 = .ok (.aload_n 0, 1) := by decide +kernel
theorem d_Model_isOver_28 : decode prog_9_method_35_code 28 = .ok (.iload_n 2, 1) := by decide +kernel
theorem d_Model_isOver_29 : decode prog_9_method_35_code 29 = .ok (.iconst 0, 1) := by decide +kernel
theorem d_Model_isOver_30 : decode prog_9_method_35_code 30 = .ok (.invokevirtual 155, 3) := by decide +kernel
theorem d_Model_isOver_33 : decode prog_9_method_35_code 33 = .ok (.ifCond .ne 7, 3) := by decide +kernel
theorem d_Model_isOver_36 : decode prog_9_method_35_code 36 = .ok (.iconst 1, 1) := by decide +kernel
theorem d_Model_isOver_37 : decode prog_9_method_35_code 37 = .ok (.goto 4, 3) := by decide +kernel
theorem d_Model_isOver_40 : decode prog_9_method_35_code 40 = .ok (.iconst 0, 1) := by decide +kernel
theorem d_Model_isOver_41 : decode prog_9_method_35_code 41 = .ok (.istore_n 1, 1) := by decide +kernel
theorem d_Model_isOver_42 : decode prog_9_method_35_code 42 = .ok (.iinc 2 1, 3) := by decide +kernel
theorem d_Model_isOver_45 : decode prog_9_method_35_code 45 = .ok (.goto (-30), 3) := by decide +kernel
theorem d_Model_isOver_48 : decode prog_9_method_35_code 48 = .ok (.iload_n 1, 1) := by decide +kernel
theorem d_Model_isOver_49 : decode prog_9_method_35_code 49 = .ok (.ireturn, 1) := by decide +kernel
set_option maxHeartbeats 4000000 in
set_option maxRecDepth 100000 in
theorem r_Model_isOver_15_b {p : Program} {l : Launch} {e : Env} {s : State} {m : MethodId} {args : Array Value} {below : List Frame} {meth : Method} {c : Code} {G : zG} {K : Nat} (X : zX p s m args meth c "AllHomeModel" prog_9_method_35_code 3 (some .boolean) G (zA G K)) {r : Int32} (a0 : Nat) (h : zH) (k15 : (Int32 × Int32) → Option Int32) (hk15 : ∀ (w : Int32 × Int32), k15 w = some r → ∀ (H : Heap) (locs : List Loc) (ls : Array Slot), zI G K s (zA G K) H locs h → lv_has ls 3 [(0, .ref (G.1 a0)), (1, .int w.1), (2, .int w.2)] → W p l e (zR 1) s m args below meth c H locs 0 0 (MQ below (zQi G K r h) args s 0 0 (zA G K)) (F0 m 15 ls [])) (u : Int32 × Int32) (hm : g_Model_isOver_15 a0 h k15 u = some r) {H : Heap} {locs : List Loc} {ls : Array Slot} (hI : zI G K s (zA G K) H locs h) (hl : lv_has ls 3 [(0, .ref (G.1 a0)), (1, .int u.1), (2, .int u.2)]) : W p l e (zR 1) s m args below meth c H locs 0 0 (MQ below (zQi G K r h) args s 0 0 (zA G K)) (F0 m 15 ls []) := by
  obtain ⟨hx, hb, hml, hown, hts, hr, hlocks, hK, hST, hNs⟩ := id X
  unfold g_Model_isOver_15 at hm
  refine lv_iload_n hx hb d_Model_isOver_15 rfl (lv_at hl 2 rfl) ?_
  refine lv_aload_n hx hb d_Model_isOver_16 rfl (lv_at hl 0 rfl) ?_
  obtain ⟨v17, hv, hm⟩ := zbd hm
  refine z_getI X hI F_Model_78 hv d_Model_isOver_17 ?_
  refine lv_icmp_ge (tgt := 48) hx hb d_Model_isOver_20 (by decide) (fun hc20 => ?_) (fun hc20 => ?_)
  · replace hm := zif_t hc20 hm
    refine lv_iload_n hx hb d_Model_isOver_48 rfl (lv_at hl 1 rfl) ?_
    obtain ⟨hz, hm⟩ := zbl_at hm
    obtain rfl := zs1 hm
    exact z_zret X hI hz d_Model_isOver_49
  · replace hm := zif_f hc20 hm
    refine lv_iload_n hx hb d_Model_isOver_23 rfl (lv_at hl 1 rfl) ?_
    refine lv_if_eq (tgt := 40) hx hb d_Model_isOver_24 (by decide) (fun hc24 => ?_) (fun hc24 => ?_)
    · replace hm := zif_t hc24 hm
      refine lv_iconst (v := (nI 0)) hx hb d_Model_isOver_40 (by decide) ?_
      refine lv_istore_n (lv' := [(1, .int (nI 0)), (0, .ref (G.1 a0)), (2, .int u.2)]) hx hb d_Model_isOver_41 rfl hl (by decide) rfl (fun ls hl => ?_)
      refine lv_iinc (v := (u.2 + (nI 1))) (lv' := [(2, .int (u.2 + (nI 1))), (1, .int (nI 0)), (0, .ref (G.1 a0))]) hx hb d_Model_isOver_42 hl (k := 2) rfl (congrArg (fun z => u.2 + z) (show Int32.ofInt (1) = (nI 1) by decide)) (by decide) rfl (fun ls hl => ?_)
      refine lv_goto (tgt := 15) hx hb d_Model_isOver_45 (by decide) ?_
      obtain ⟨g1, e1⟩ : ∃ z, z = (u.2 + (nI 1)) := ⟨_, rfl⟩
      rw [← e1] at hm hl
      exact hk15 ((nI 0), g1) hm _ _ _ hI (lv_sub hl [2, 1, 0] rfl)
    · replace hm := zif_f hc24 hm
      refine lv_aload_n hx hb d_Model_isOver_27 rfl (lv_at hl 0 rfl) ?_
      refine lv_iload_n hx hb d_Model_isOver_28 rfl (lv_at hl 2 rfl) ?_
      refine lv_iconst (v := (nI 0)) hx hb d_Model_isOver_29 (by decide) ?_
      obtain ⟨v30, hv, hm⟩ := zbd hm
      obtain ⟨hq, hv⟩ := zcv_at hv
      refine z_ci hI (z_runV (As := [.int u.2, .int (nI 0)]) (rest := []) X hI hl.1 (c_Model_of l G K a0 u.2 (nI 0) h _ hv) C_Model_155 rfl hq (Nat.le_of_ble_eq_true rfl) ⟨Nat.le_of_ble_eq_true rfl, Nat.le_of_ble_eq_true rfl, Nat.zero_le _, Nat.zero_le _⟩ rfl d_Model_isOver_30) (fun H locs hI => ?_)
      refine lv_if_ne (tgt := 40) hx hb d_Model_isOver_33 (by decide) (fun hc33 => ?_) (fun hc33 => ?_)
      · replace hm := zif_f hc33 hm
        refine lv_iconst (v := (nI 0)) hx hb d_Model_isOver_40 (by decide) ?_
        refine lv_istore_n (lv' := [(1, .int (nI 0)), (0, .ref (G.1 a0)), (2, .int u.2)]) hx hb d_Model_isOver_41 rfl hl (by decide) rfl (fun ls hl => ?_)
        refine lv_iinc (v := (u.2 + (nI 1))) (lv' := [(2, .int (u.2 + (nI 1))), (1, .int (nI 0)), (0, .ref (G.1 a0))]) hx hb d_Model_isOver_42 hl (k := 2) rfl (congrArg (fun z => u.2 + z) (show Int32.ofInt (1) = (nI 1) by decide)) (by decide) rfl (fun ls hl => ?_)
        refine lv_goto (tgt := 15) hx hb d_Model_isOver_45 (by decide) ?_
        obtain ⟨g1, e1⟩ : ∃ z, z = (u.2 + (nI 1)) := ⟨_, rfl⟩
        rw [← e1] at hm hl
        exact hk15 ((nI 0), g1) hm _ _ _ hI (lv_sub hl [2, 1, 0] rfl)
      · replace hm := zif_t hc33 hm
        refine lv_iconst (v := (nI 1)) hx hb d_Model_isOver_36 (by decide) ?_
        refine lv_goto (tgt := 41) hx hb d_Model_isOver_37 (by decide) ?_
        refine lv_istore_n (lv' := [(1, .int (nI 1)), (0, .ref (G.1 a0)), (2, .int u.2)]) hx hb d_Model_isOver_41 rfl hl (by decide) rfl (fun ls hl => ?_)
        refine lv_iinc (v := (u.2 + (nI 1))) (lv' := [(2, .int (u.2 + (nI 1))), (1, .int (nI 1)), (0, .ref (G.1 a0))]) hx hb d_Model_isOver_42 hl (k := 2) rfl (congrArg (fun z => u.2 + z) (show Int32.ofInt (1) = (nI 1) by decide)) (by decide) rfl (fun ls hl => ?_)
        refine lv_goto (tgt := 15) hx hb d_Model_isOver_45 (by decide) ?_
        obtain ⟨g1, e1⟩ : ∃ z, z = (u.2 + (nI 1)) := ⟨_, rfl⟩
        rw [← e1] at hm hl
        exact hk15 ((nI 1), g1) hm _ _ _ hI (lv_sub hl [2, 1, 0] rfl)
theorem r_Model_isOver_15 {p : Program} {l : Launch} {e : Env} {s : State} {m : MethodId} {args : Array Value} {below : List Frame} {meth : Method} {c : Code} {G : zG} {K : Nat} (X : zX p s m args meth c "AllHomeModel" prog_9_method_35_code 3 (some .boolean) G (zA G K)) {r : Int32} (a0 : Nat) (h : zH) : ∀ (n : Nat) (w : Int32 × Int32), zloop (g_Model_isOver_15 a0 h) n w = some r → ∀ (H : Heap) (locs : List Loc) (ls : Array Slot), zI G K s (zA G K) H locs h → lv_has ls 3 [(0, .ref (G.1 a0)), (1, .int w.1), (2, .int w.2)] → W p l e (zR 1) s m args below meth c H locs 0 0 (MQ below (zQi G K r h) args s 0 0 (zA G K)) (F0 m 15 ls []) := by
  intro n
  induction n with
  | zero => intro w hm; cases hm
  | succ n ih => intro w hm H locs ls hI hl; exact r_Model_isOver_15_b X a0 h (zloop (g_Model_isOver_15 a0 h) n) ih w (zls hm) hI hl
set_option maxHeartbeats 4000000 in
set_option maxRecDepth 100000 in
theorem r_Model_isOver_0 {p : Program} {l : Launch} {e : Env} {s : State} {m : MethodId} {args : Array Value} {below : List Frame} {meth : Method} {c : Code} {G : zG} {K : Nat} (X : zX p s m args meth c "AllHomeModel" prog_9_method_35_code 3 (some .boolean) G (zA G K)) {r : Int32} (a0 : Nat) (h : zH) (hm : m_Model_isOver a0 h = some r) {H : Heap} {locs : List Loc} {ls : Array Slot} (hI : zI G K s (zA G K) H locs h) (hl : lv_has ls 3 [(0, .ref (G.1 a0))]) : W p l e (zR 1) s m args below meth c H locs 0 0 (MQ below (zQi G K r h) args s 0 0 (zA G K)) (F0 m 0 ls []) := by
  obtain ⟨hx, hb, hml, hown, hts, hr, hlocks, hK, hST, hNs⟩ := id X
  unfold m_Model_isOver at hm
  refine lv_aload_n hx hb d_Model_isOver_0 rfl (lv_at hl 0 rfl) ?_
  obtain ⟨v1, hv, hm⟩ := zbd hm
  obtain ⟨hq, hv⟩ := zcv_at hv
  refine z_ci hI (z_runV (As := []) (rest := []) X hI hl.1 (c_Model_words l G K a0 h _ hv) C_Model_172 rfl hq (Nat.le_of_ble_eq_true rfl) ⟨Nat.le_of_ble_eq_true rfl, Nat.le_of_ble_eq_true rfl, Nat.zero_le _, Nat.zero_le _⟩ rfl d_Model_isOver_1) (fun H locs hI => ?_)
  refine lv_if_ne (tgt := 11) hx hb d_Model_isOver_4 (by decide) (fun hc4 => ?_) (fun hc4 => ?_)
  · replace hm := zif_f hc4 hm
    refine lv_iconst (v := (nI 0)) hx hb d_Model_isOver_11 (by decide) ?_
    refine lv_istore_n (lv' := [(1, .int (nI 0)), (0, .ref (G.1 a0))]) hx hb d_Model_isOver_12 rfl hl (by decide) rfl (fun ls hl => ?_)
    refine lv_iconst (v := (nI 0)) hx hb d_Model_isOver_13 (by decide) ?_
    refine lv_istore_n (lv' := [(2, .int (nI 0)), (1, .int (nI 0)), (0, .ref (G.1 a0))]) hx hb d_Model_isOver_14 rfl hl (by decide) rfl (fun ls hl => ?_)
    exact r_Model_isOver_15 X a0 h zN ((nI 0), (nI 0)) hm _ _ _ hI (lv_sub hl [2, 1, 0] rfl)
  · replace hm := zif_t hc4 hm
    refine lv_iconst (v := (nI 1)) hx hb d_Model_isOver_7 (by decide) ?_
    refine lv_goto (tgt := 12) hx hb d_Model_isOver_8 (by decide) ?_
    refine lv_istore_n (lv' := [(1, .int (nI 1)), (0, .ref (G.1 a0))]) hx hb d_Model_isOver_12 rfl hl (by decide) rfl (fun ls hl => ?_)
    refine lv_iconst (v := (nI 0)) hx hb d_Model_isOver_13 (by decide) ?_
    refine lv_istore_n (lv' := [(2, .int (nI 0)), (1, .int (nI 1)), (0, .ref (G.1 a0))]) hx hb d_Model_isOver_14 rfl hl (by decide) rfl (fun ls hl => ?_)
    exact r_Model_isOver_15 X a0 h zN ((nI 1), (nI 0)) hm _ _ _ hI (lv_sub hl [2, 1, 0] rfl)
set_option maxHeartbeats 4000000 in
set_option maxRecDepth 100000 in
theorem c_Model_isOver (l : Launch) (G : zG) (K : Nat) (a0 : Nat) (h : zH) (r : Int32) (hm : m_Model_isOver a0 h = some r) : zMz l G K y_Model_isOver prog_9_method_35_code 3 1 [.ref (G.1 a0)] h r h := zMet (by decide +kernel) (Nat.le_of_ble_eq_true rfl) (fun p e s m below meth c ls X hI hl => r_Model_isOver_0 X a0 h hm hI hl)
-- walk of AllHomeModel.keepRun
theorem d_Model_keepRun_0 : decode prog_9_method_36_code 0 = .ok (.iconst 0, 1) := by decide +kernel
theorem d_Model_keepRun_1 : decode prog_9_method_36_code 1 = .ok (.istore_n 2, 1) := by decide +kernel
theorem d_Model_keepRun_2 : decode prog_9_method_36_code 2 = .ok (.iload_n 2, 1) := by decide +kernel
theorem d_Model_keepRun_3 : decode prog_9_method_36_code 3 = .ok (.bipush 91, 2) := by decide +kernel
theorem d_Model_keepRun_5 : decode prog_9_method_36_code 5 = .ok (.if_icmp .ge 26, 3) := by decide +kernel
theorem d_Model_keepRun_8 : decode prog_9_method_36_code 8 = .ok (.aload_n 0, 1) := by decide +kernel
theorem d_Model_keepRun_9 : decode prog_9_method_36_code 9 = .ok (.getfield 25, 3) := by decide +kernel
theorem d_Model_keepRun_12 : decode prog_9_method_36_code 12 = .ok (.bipush 91, 2) := by decide +kernel
theorem d_Model_keepRun_14 : decode prog_9_method_36_code 14 = .ok (.iload_n 1, 1) := by decide +kernel
theorem d_Model_keepRun_15 : decode prog_9_method_36_code 15 = .ok (.imul, 1) := by decide +kernel
theorem d_Model_keepRun_16 : decode prog_9_method_36_code 16 = .ok (.iload_n 2, 1) := by decide +kernel
theorem d_Model_keepRun_17 : decode prog_9_method_36_code 17 = .ok (.iadd, 1) := by decide +kernel
theorem d_Model_keepRun_18 : decode prog_9_method_36_code 18 = .ok (.aload_n 0, 1) := by decide +kernel
theorem d_Model_keepRun_19 : decode prog_9_method_36_code 19 = .ok (.getfield 22, 3) := by decide +kernel
theorem d_Model_keepRun_22 : decode prog_9_method_36_code 22 = .ok (.iload_n 2, 1) := by decide +kernel
theorem d_Model_keepRun_23 : decode prog_9_method_36_code 23 = .ok (.iaload, 1) := by decide +kernel
theorem d_Model_keepRun_24 : decode prog_9_method_36_code 24 = .ok (.iastore, 1) := by decide +kernel
theorem d_Model_keepRun_25 : decode prog_9_method_36_code 25 = .ok (.iinc 2 1, 3) := by decide +kernel
theorem d_Model_keepRun_28 : decode prog_9_method_36_code 28 = .ok (.goto (-26), 3) := by decide +kernel
theorem d_Model_keepRun_31 : decode prog_9_method_36_code 31 = .ok (.aload_n 0, 1) := by decide +kernel
theorem d_Model_keepRun_32 : decode prog_9_method_36_code 32 = .ok (.getfield 34, 3) := by decide +kernel
theorem d_Model_keepRun_35 : decode prog_9_method_36_code 35 = .ok (.iload_n 1, 1) := by decide +kernel
theorem d_Model_keepRun_36 : decode prog_9_method_36_code 36 = .ok (.aload_n 0, 1) := by decide +kernel
theorem d_Model_keepRun_37 : decode prog_9_method_36_code 37 = .ok (.getfield 137, 3) := by decide +kernel
theorem d_Model_keepRun_40 : decode prog_9_method_36_code 40 = .ok (.iastore, 1) := by decide +kernel
theorem d_Model_keepRun_41 : decode prog_9_method_36_code 41 = .ok (.aload_n 0, 1) := by decide +kernel
theorem d_Model_keepRun_42 : decode prog_9_method_36_code 42 = .ok (.getfield 37, 3) := by decide +kernel
theorem d_Model_keepRun_45 : decode prog_9_method_36_code 45 = .ok (.iload_n 1, 1) := by decide +kernel
theorem d_Model_keepRun_46 : decode prog_9_method_36_code 46 = .ok (.aload_n 0, 1) := by decide +kernel
theorem d_Model_keepRun_47 : decode prog_9_method_36_code 47 = .ok (.getfield 140, 3) := by decide +kernel
theorem d_Model_keepRun_50 : decode prog_9_method_36_code 50 = .ok (.iastore, 1) := by decide +kernel
theorem d_Model_keepRun_51 : decode prog_9_method_36_code 51 = .ok (.return_, 1) := by decide +kernel
set_option maxHeartbeats 4000000 in
set_option maxRecDepth 100000 in
theorem r_Model_keepRun_2_b {p : Program} {l : Launch} {e : Env} {s : State} {m : MethodId} {args : Array Value} {below : List Frame} {meth : Method} {c : Code} {G : zG} {K : Nat} (X : zX p s m args meth c "AllHomeModel" prog_9_method_36_code 3 none G (zA G K)) {h' : zH} (a0 : Nat) (x1 : Int32) (k2 : (Int32 × zH) → Option zH) (hk2 : ∀ (w : Int32 × zH), k2 w = some h' → ∀ (H : Heap) (locs : List Loc) (ls : Array Slot), zI G K s (zA G K) H locs w.2 → lv_has ls 3 [(0, .ref (G.1 a0)), (1, .int x1), (2, .int w.1)] → W p l e (zR 0) s m args below meth c H locs 0 0 (MQ below (zQv G K h') args s 0 0 (zA G K)) (F0 m 2 ls [])) (u : Int32 × zH) (hm : g_Model_keepRun_2 a0 x1 k2 u = some h') {H : Heap} {locs : List Loc} {ls : Array Slot} (hI : zI G K s (zA G K) H locs u.2) (hl : lv_has ls 3 [(0, .ref (G.1 a0)), (1, .int x1), (2, .int u.1)]) : W p l e (zR 0) s m args below meth c H locs 0 0 (MQ below (zQv G K h') args s 0 0 (zA G K)) (F0 m 2 ls []) := by
  obtain ⟨hx, hb, hml, hown, hts, hr, hlocks, hK, hST, hNs⟩ := id X
  unfold g_Model_keepRun_2 at hm
  refine lv_iload_n hx hb d_Model_keepRun_2 rfl (lv_at hl 2 rfl) ?_
  refine lv_bipush (v := (nI 91)) hx hb d_Model_keepRun_3 (by decide) ?_
  refine lv_icmp_ge (tgt := 31) hx hb d_Model_keepRun_5 (by decide) (fun hc5 => ?_) (fun hc5 => ?_)
  · replace hm := zif_t hc5 hm
    refine lv_aload_n hx hb d_Model_keepRun_31 rfl (lv_at hl 0 rfl) ?_
    obtain ⟨v32, hv, hm⟩ := zbd hm
    refine z_getR X hI F_Model_34 hv d_Model_keepRun_32 ?_
    refine lv_iload_n hx hb d_Model_keepRun_35 rfl (lv_at hl 1 rfl) ?_
    refine lv_aload_n hx hb d_Model_keepRun_36 rfl (lv_at hl 0 rfl) ?_
    obtain ⟨v37, hv, hm⟩ := zbd hm
    refine z_getI X hI F_Model_137 hv d_Model_keepRun_37 ?_
    obtain ⟨h40, hv, hm⟩ := zbd hm
    refine z_iast X hI hv d_Model_keepRun_40 (fun H locs hI => ?_)
    refine lv_aload_n hx hb d_Model_keepRun_41 rfl (lv_at hl 0 rfl) ?_
    obtain ⟨v42, hv, hm⟩ := zbd hm
    refine z_getR X hI F_Model_37 hv d_Model_keepRun_42 ?_
    refine lv_iload_n hx hb d_Model_keepRun_45 rfl (lv_at hl 1 rfl) ?_
    refine lv_aload_n hx hb d_Model_keepRun_46 rfl (lv_at hl 0 rfl) ?_
    obtain ⟨v47, hv, hm⟩ := zbd hm
    refine z_getI X hI F_Model_140 hv d_Model_keepRun_47 ?_
    obtain ⟨h50, hv, hm⟩ := zbd hm
    refine z_iast X hI hv d_Model_keepRun_50 (fun H locs hI => ?_)
    obtain rfl := zs1 hm
    exact z_vret X hI d_Model_keepRun_51
  · replace hm := zif_f hc5 hm
    refine lv_aload_n hx hb d_Model_keepRun_8 rfl (lv_at hl 0 rfl) ?_
    obtain ⟨v9, hv, hm⟩ := zbd hm
    refine z_getR X hI F_Model_25 hv d_Model_keepRun_9 ?_
    refine lv_bipush (v := (nI 91)) hx hb d_Model_keepRun_12 (by decide) ?_
    refine lv_iload_n hx hb d_Model_keepRun_14 rfl (lv_at hl 1 rfl) ?_
    refine lv_imul hx hb d_Model_keepRun_15 ?_
    refine lv_iload_n hx hb d_Model_keepRun_16 rfl (lv_at hl 2 rfl) ?_
    refine lv_iadd hx hb d_Model_keepRun_17 ?_
    refine lv_aload_n hx hb d_Model_keepRun_18 rfl (lv_at hl 0 rfl) ?_
    obtain ⟨v19, hv, hm⟩ := zbd hm
    refine z_getR X hI F_Model_22 hv d_Model_keepRun_19 ?_
    refine lv_iload_n hx hb d_Model_keepRun_22 rfl (lv_at hl 2 rfl) ?_
    obtain ⟨v23, hv, hm⟩ := zbd hm
    refine z_iald X hI hv d_Model_keepRun_23 ?_
    obtain ⟨h24, hv, hm⟩ := zbd hm
    refine z_iast X hI hv d_Model_keepRun_24 (fun H locs hI => ?_)
    refine lv_iinc (v := (u.1 + (nI 1))) (lv' := [(2, .int (u.1 + (nI 1))), (0, .ref (G.1 a0)), (1, .int x1)]) hx hb d_Model_keepRun_25 hl (k := 2) rfl (congrArg (fun z => u.1 + z) (show Int32.ofInt (1) = (nI 1) by decide)) (by decide) rfl (fun ls hl => ?_)
    refine lv_goto (tgt := 2) hx hb d_Model_keepRun_28 (by decide) ?_
    obtain ⟨g0, e0⟩ : ∃ z, z = (u.1 + (nI 1)) := ⟨_, rfl⟩
    rw [← e0] at hm hl
    exact hk2 (g0, h24) hm _ _ _ hI (lv_sub hl [1, 2, 0] rfl)
theorem r_Model_keepRun_2 {p : Program} {l : Launch} {e : Env} {s : State} {m : MethodId} {args : Array Value} {below : List Frame} {meth : Method} {c : Code} {G : zG} {K : Nat} (X : zX p s m args meth c "AllHomeModel" prog_9_method_36_code 3 none G (zA G K)) {h' : zH} (a0 : Nat) (x1 : Int32) : ∀ (n : Nat) (w : Int32 × zH), zloop (g_Model_keepRun_2 a0 x1) n w = some h' → ∀ (H : Heap) (locs : List Loc) (ls : Array Slot), zI G K s (zA G K) H locs w.2 → lv_has ls 3 [(0, .ref (G.1 a0)), (1, .int x1), (2, .int w.1)] → W p l e (zR 0) s m args below meth c H locs 0 0 (MQ below (zQv G K h') args s 0 0 (zA G K)) (F0 m 2 ls []) := by
  intro n
  induction n with
  | zero => intro w hm; cases hm
  | succ n ih => intro w hm H locs ls hI hl; exact r_Model_keepRun_2_b X a0 x1 (zloop (g_Model_keepRun_2 a0 x1) n) ih w (zls hm) hI hl
set_option maxHeartbeats 4000000 in
set_option maxRecDepth 100000 in
theorem r_Model_keepRun_0 {p : Program} {l : Launch} {e : Env} {s : State} {m : MethodId} {args : Array Value} {below : List Frame} {meth : Method} {c : Code} {G : zG} {K : Nat} (X : zX p s m args meth c "AllHomeModel" prog_9_method_36_code 3 none G (zA G K)) {h' : zH} (a0 : Nat) (x1 : Int32) (h : zH) (hm : m_Model_keepRun a0 x1 h = some h') {H : Heap} {locs : List Loc} {ls : Array Slot} (hI : zI G K s (zA G K) H locs h) (hl : lv_has ls 3 [(0, .ref (G.1 a0)), (1, .int x1)]) : W p l e (zR 0) s m args below meth c H locs 0 0 (MQ below (zQv G K h') args s 0 0 (zA G K)) (F0 m 0 ls []) := by
  obtain ⟨hx, hb, hml, hown, hts, hr, hlocks, hK, hST, hNs⟩ := id X
  unfold m_Model_keepRun at hm
  refine lv_iconst (v := (nI 0)) hx hb d_Model_keepRun_0 (by decide) ?_
  refine lv_istore_n (lv' := [(2, .int (nI 0)), (0, .ref (G.1 a0)), (1, .int x1)]) hx hb d_Model_keepRun_1 rfl hl (by decide) rfl (fun ls hl => ?_)
  exact r_Model_keepRun_2 X a0 x1 zN ((nI 0), h) hm _ _ _ hI (lv_sub hl [1, 2, 0] rfl)
set_option maxHeartbeats 4000000 in
set_option maxRecDepth 100000 in
theorem c_Model_keepRun (l : Launch) (G : zG) (K : Nat) (a0 : Nat) (x1 : Int32) (h : zH) (h' : zH) (hm : m_Model_keepRun a0 x1 h = some h') : zMv l G K y_Model_keepRun prog_9_method_36_code 3 0 [.ref (G.1 a0), .int x1] h h' := zMet (by decide +kernel) (Nat.le_of_ble_eq_true rfl) (fun p e s m below meth c ls X hI hl => r_Model_keepRun_0 X a0 x1 h hm hI hl)
-- walk of AllHomeModel.takeRun
theorem d_Model_takeRun_0 : decode prog_9_method_37_code 0 = .ok (.aload_n 0, 1) := by decide +kernel
theorem d_Model_takeRun_1 : decode prog_9_method_37_code 1 = .ok (.aload_n 0, 1) := by decide +kernel
theorem d_Model_takeRun_2 : decode prog_9_method_37_code 2 = .ok (.getfield 19, 3) := by decide +kernel
theorem d_Model_takeRun_5 : decode prog_9_method_37_code 5 = .ok (.aload_n 0, 1) := by decide +kernel
theorem d_Model_takeRun_6 : decode prog_9_method_37_code 6 = .ok (.getfield 28, 3) := by decide +kernel
theorem d_Model_takeRun_9 : decode prog_9_method_37_code 9 = .ok (.iload_n 1, 1) := by decide +kernel
theorem d_Model_takeRun_10 : decode prog_9_method_37_code 10 = .ok (.iaload, 1) := by decide +kernel
theorem d_Model_takeRun_11 : decode prog_9_method_37_code 11 = .ok (.iaload, 1) := by decide +kernel
theorem d_Model_takeRun_12 : decode prog_9_method_37_code 12 = .ok (.putfield 134, 3) := by decide +kernel
theorem d_Model_takeRun_15 : decode prog_9_method_37_code 15 = .ok (.iconst 0, 1) := by decide +kernel
theorem d_Model_takeRun_16 : decode prog_9_method_37_code 16 = .ok (.istore_n 2, 1) := by decide +kernel
theorem d_Model_takeRun_17 : decode prog_9_method_37_code 17 = .ok (.iload_n 2, 1) := by decide +kernel
theorem d_Model_takeRun_18 : decode prog_9_method_37_code 18 = .ok (.bipush 91, 2) := by decide +kernel
theorem d_Model_takeRun_20 : decode prog_9_method_37_code 20 = .ok (.if_icmp .ge 26, 3) := by decide +kernel
theorem d_Model_takeRun_23 : decode prog_9_method_37_code 23 = .ok (.aload_n 0, 1) := by decide +kernel
theorem d_Model_takeRun_24 : decode prog_9_method_37_code 24 = .ok (.getfield 22, 3) := by decide +kernel
theorem d_Model_takeRun_27 : decode prog_9_method_37_code 27 = .ok (.iload_n 2, 1) := by decide +kernel
theorem d_Model_takeRun_28 : decode prog_9_method_37_code 28 = .ok (.aload_n 0, 1) := by decide +kernel
theorem d_Model_takeRun_29 : decode prog_9_method_37_code 29 = .ok (.getfield 25, 3) := by decide +kernel
theorem d_Model_takeRun_32 : decode prog_9_method_37_code 32 = .ok (.bipush 91, 2) := by decide +kernel
theorem d_Model_takeRun_34 : decode prog_9_method_37_code 34 = .ok (.iload_n 1, 1) := by decide +kernel
theorem d_Model_takeRun_35 : decode prog_9_method_37_code 35 = .ok (.imul, 1) := by decide +kernel
theorem d_Model_takeRun_36 : decode prog_9_method_37_code 36 = .ok (.iload_n 2, 1) := by decide +kernel
theorem d_Model_takeRun_37 : decode prog_9_method_37_code 37 = .ok (.iadd, 1) := by decide +kernel
theorem d_Model_takeRun_38 : decode prog_9_method_37_code 38 = .ok (.iaload, 1) := by decide +kernel
theorem d_Model_takeRun_39 : decode prog_9_method_37_code 39 = .ok (.iastore, 1) := by decide +kernel
theorem d_Model_takeRun_40 : decode prog_9_method_37_code 40 = .ok (.iinc 2 1, 3) := by decide +kernel
theorem d_Model_takeRun_43 : decode prog_9_method_37_code 43 = .ok (.goto (-26), 3) := by decide +kernel
theorem d_Model_takeRun_46 : decode prog_9_method_37_code 46 = .ok (.aload_n 0, 1) := by decide +kernel
theorem d_Model_takeRun_47 : decode prog_9_method_37_code 47 = .ok (.aload_n 0, 1) := by decide +kernel
theorem d_Model_takeRun_48 : decode prog_9_method_37_code 48 = .ok (.getfield 34, 3) := by decide +kernel
theorem d_Model_takeRun_51 : decode prog_9_method_37_code 51 = .ok (.iload_n 1, 1) := by decide +kernel
theorem d_Model_takeRun_52 : decode prog_9_method_37_code 52 = .ok (.iaload, 1) := by decide +kernel
theorem d_Model_takeRun_53 : decode prog_9_method_37_code 53 = .ok (.putfield 137, 3) := by decide +kernel
theorem d_Model_takeRun_56 : decode prog_9_method_37_code 56 = .ok (.aload_n 0, 1) := by decide +kernel
theorem d_Model_takeRun_57 : decode prog_9_method_37_code 57 = .ok (.aload_n 0, 1) := by decide +kernel
theorem d_Model_takeRun_58 : decode prog_9_method_37_code 58 = .ok (.getfield 37, 3) := by decide +kernel
theorem d_Model_takeRun_61 : decode prog_9_method_37_code 61 = .ok (.iload_n 1, 1) := by decide +kernel
theorem d_Model_takeRun_62 : decode prog_9_method_37_code 62 = .ok (.iaload, 1) := by decide +kernel
theorem d_Model_takeRun_63 : decode prog_9_method_37_code 63 = .ok (.putfield 140, 3) := by decide +kernel
theorem d_Model_takeRun_66 : decode prog_9_method_37_code 66 = .ok (.return_, 1) := by decide +kernel
set_option maxHeartbeats 4000000 in
set_option maxRecDepth 100000 in
theorem r_Model_takeRun_17_b {p : Program} {l : Launch} {e : Env} {s : State} {m : MethodId} {args : Array Value} {below : List Frame} {meth : Method} {c : Code} {G : zG} {K : Nat} (X : zX p s m args meth c "AllHomeModel" prog_9_method_37_code 3 none G (zA G K)) {h' : zH} (a0 : Nat) (x1 : Int32) (k17 : (Int32 × zH) → Option zH) (hk17 : ∀ (w : Int32 × zH), k17 w = some h' → ∀ (H : Heap) (locs : List Loc) (ls : Array Slot), zI G K s (zA G K) H locs w.2 → lv_has ls 3 [(0, .ref (G.1 a0)), (1, .int x1), (2, .int w.1)] → W p l e (zR 0) s m args below meth c H locs 0 0 (MQ below (zQv G K h') args s 0 0 (zA G K)) (F0 m 17 ls [])) (u : Int32 × zH) (hm : g_Model_takeRun_17 a0 x1 k17 u = some h') {H : Heap} {locs : List Loc} {ls : Array Slot} (hI : zI G K s (zA G K) H locs u.2) (hl : lv_has ls 3 [(0, .ref (G.1 a0)), (1, .int x1), (2, .int u.1)]) : W p l e (zR 0) s m args below meth c H locs 0 0 (MQ below (zQv G K h') args s 0 0 (zA G K)) (F0 m 17 ls []) := by
  obtain ⟨hx, hb, hml, hown, hts, hr, hlocks, hK, hST, hNs⟩ := id X
  unfold g_Model_takeRun_17 at hm
  refine lv_iload_n hx hb d_Model_takeRun_17 rfl (lv_at hl 2 rfl) ?_
  refine lv_bipush (v := (nI 91)) hx hb d_Model_takeRun_18 (by decide) ?_
  refine lv_icmp_ge (tgt := 46) hx hb d_Model_takeRun_20 (by decide) (fun hc20 => ?_) (fun hc20 => ?_)
  · replace hm := zif_t hc20 hm
    refine lv_aload_n hx hb d_Model_takeRun_46 rfl (lv_at hl 0 rfl) ?_
    refine lv_aload_n hx hb d_Model_takeRun_47 rfl (lv_at hl 0 rfl) ?_
    obtain ⟨v48, hv, hm⟩ := zbd hm
    refine z_getR X hI F_Model_34 hv d_Model_takeRun_48 ?_
    refine lv_iload_n hx hb d_Model_takeRun_51 rfl (lv_at hl 1 rfl) ?_
    obtain ⟨v52, hv, hm⟩ := zbd hm
    refine z_iald X hI hv d_Model_takeRun_52 ?_
    obtain ⟨h53, hv, hm⟩ := zbd hm
    refine z_putI X hI P_Model_137 hv d_Model_takeRun_53 (fun H locs hI => ?_)
    refine lv_aload_n hx hb d_Model_takeRun_56 rfl (lv_at hl 0 rfl) ?_
    refine lv_aload_n hx hb d_Model_takeRun_57 rfl (lv_at hl 0 rfl) ?_
    obtain ⟨v58, hv, hm⟩ := zbd hm
    refine z_getR X hI F_Model_37 hv d_Model_takeRun_58 ?_
    refine lv_iload_n hx hb d_Model_takeRun_61 rfl (lv_at hl 1 rfl) ?_
    obtain ⟨v62, hv, hm⟩ := zbd hm
    refine z_iald X hI hv d_Model_takeRun_62 ?_
    obtain ⟨h63, hv, hm⟩ := zbd hm
    refine z_putI X hI P_Model_140 hv d_Model_takeRun_63 (fun H locs hI => ?_)
    obtain rfl := zs1 hm
    exact z_vret X hI d_Model_takeRun_66
  · replace hm := zif_f hc20 hm
    refine lv_aload_n hx hb d_Model_takeRun_23 rfl (lv_at hl 0 rfl) ?_
    obtain ⟨v24, hv, hm⟩ := zbd hm
    refine z_getR X hI F_Model_22 hv d_Model_takeRun_24 ?_
    refine lv_iload_n hx hb d_Model_takeRun_27 rfl (lv_at hl 2 rfl) ?_
    refine lv_aload_n hx hb d_Model_takeRun_28 rfl (lv_at hl 0 rfl) ?_
    obtain ⟨v29, hv, hm⟩ := zbd hm
    refine z_getR X hI F_Model_25 hv d_Model_takeRun_29 ?_
    refine lv_bipush (v := (nI 91)) hx hb d_Model_takeRun_32 (by decide) ?_
    refine lv_iload_n hx hb d_Model_takeRun_34 rfl (lv_at hl 1 rfl) ?_
    refine lv_imul hx hb d_Model_takeRun_35 ?_
    refine lv_iload_n hx hb d_Model_takeRun_36 rfl (lv_at hl 2 rfl) ?_
    refine lv_iadd hx hb d_Model_takeRun_37 ?_
    obtain ⟨v38, hv, hm⟩ := zbd hm
    refine z_iald X hI hv d_Model_takeRun_38 ?_
    obtain ⟨h39, hv, hm⟩ := zbd hm
    refine z_iast X hI hv d_Model_takeRun_39 (fun H locs hI => ?_)
    refine lv_iinc (v := (u.1 + (nI 1))) (lv' := [(2, .int (u.1 + (nI 1))), (0, .ref (G.1 a0)), (1, .int x1)]) hx hb d_Model_takeRun_40 hl (k := 2) rfl (congrArg (fun z => u.1 + z) (show Int32.ofInt (1) = (nI 1) by decide)) (by decide) rfl (fun ls hl => ?_)
    refine lv_goto (tgt := 17) hx hb d_Model_takeRun_43 (by decide) ?_
    obtain ⟨g0, e0⟩ : ∃ z, z = (u.1 + (nI 1)) := ⟨_, rfl⟩
    rw [← e0] at hm hl
    exact hk17 (g0, h39) hm _ _ _ hI (lv_sub hl [1, 2, 0] rfl)
theorem r_Model_takeRun_17 {p : Program} {l : Launch} {e : Env} {s : State} {m : MethodId} {args : Array Value} {below : List Frame} {meth : Method} {c : Code} {G : zG} {K : Nat} (X : zX p s m args meth c "AllHomeModel" prog_9_method_37_code 3 none G (zA G K)) {h' : zH} (a0 : Nat) (x1 : Int32) : ∀ (n : Nat) (w : Int32 × zH), zloop (g_Model_takeRun_17 a0 x1) n w = some h' → ∀ (H : Heap) (locs : List Loc) (ls : Array Slot), zI G K s (zA G K) H locs w.2 → lv_has ls 3 [(0, .ref (G.1 a0)), (1, .int x1), (2, .int w.1)] → W p l e (zR 0) s m args below meth c H locs 0 0 (MQ below (zQv G K h') args s 0 0 (zA G K)) (F0 m 17 ls []) := by
  intro n
  induction n with
  | zero => intro w hm; cases hm
  | succ n ih => intro w hm H locs ls hI hl; exact r_Model_takeRun_17_b X a0 x1 (zloop (g_Model_takeRun_17 a0 x1) n) ih w (zls hm) hI hl
set_option maxHeartbeats 4000000 in
set_option maxRecDepth 100000 in
theorem r_Model_takeRun_0 {p : Program} {l : Launch} {e : Env} {s : State} {m : MethodId} {args : Array Value} {below : List Frame} {meth : Method} {c : Code} {G : zG} {K : Nat} (X : zX p s m args meth c "AllHomeModel" prog_9_method_37_code 3 none G (zA G K)) {h' : zH} (a0 : Nat) (x1 : Int32) (h : zH) (hm : m_Model_takeRun a0 x1 h = some h') {H : Heap} {locs : List Loc} {ls : Array Slot} (hI : zI G K s (zA G K) H locs h) (hl : lv_has ls 3 [(0, .ref (G.1 a0)), (1, .int x1)]) : W p l e (zR 0) s m args below meth c H locs 0 0 (MQ below (zQv G K h') args s 0 0 (zA G K)) (F0 m 0 ls []) := by
  obtain ⟨hx, hb, hml, hown, hts, hr, hlocks, hK, hST, hNs⟩ := id X
  unfold m_Model_takeRun at hm
  refine lv_aload_n hx hb d_Model_takeRun_0 rfl (lv_at hl 0 rfl) ?_
  refine lv_aload_n hx hb d_Model_takeRun_1 rfl (lv_at hl 0 rfl) ?_
  obtain ⟨v2, hv, hm⟩ := zbd hm
  refine z_getR X hI F_Model_19 hv d_Model_takeRun_2 ?_
  refine lv_aload_n hx hb d_Model_takeRun_5 rfl (lv_at hl 0 rfl) ?_
  obtain ⟨v6, hv, hm⟩ := zbd hm
  refine z_getR X hI F_Model_28 hv d_Model_takeRun_6 ?_
  refine lv_iload_n hx hb d_Model_takeRun_9 rfl (lv_at hl 1 rfl) ?_
  obtain ⟨v10, hv, hm⟩ := zbd hm
  refine z_iald X hI hv d_Model_takeRun_10 ?_
  obtain ⟨v11, hv, hm⟩ := zbd hm
  refine z_iald X hI hv d_Model_takeRun_11 ?_
  obtain ⟨h12, hv, hm⟩ := zbd hm
  refine z_putI X hI P_Model_134 hv d_Model_takeRun_12 (fun H locs hI => ?_)
  refine lv_iconst (v := (nI 0)) hx hb d_Model_takeRun_15 (by decide) ?_
  refine lv_istore_n (lv' := [(2, .int (nI 0)), (0, .ref (G.1 a0)), (1, .int x1)]) hx hb d_Model_takeRun_16 rfl hl (by decide) rfl (fun ls hl => ?_)
  exact r_Model_takeRun_17 X a0 x1 zN ((nI 0), h12) hm _ _ _ hI (lv_sub hl [1, 2, 0] rfl)
set_option maxHeartbeats 4000000 in
set_option maxRecDepth 100000 in
theorem c_Model_takeRun (l : Launch) (G : zG) (K : Nat) (a0 : Nat) (x1 : Int32) (h : zH) (h' : zH) (hm : m_Model_takeRun a0 x1 h = some h') : zMv l G K y_Model_takeRun prog_9_method_37_code 3 0 [.ref (G.1 a0), .int x1] h h' := zMet (by decide +kernel) (Nat.le_of_ble_eq_true rfl) (fun p e s m below meth c ls X hI hl => r_Model_takeRun_0 X a0 x1 h hm hI hl)
-- walk of AllHomeModel.run
theorem d_Model_run_0 : decode prog_9_method_38_code 0 = .ok (.aload_n 0, 1) := by decide +kernel
theorem d_Model_run_1 : decode prog_9_method_38_code 1 = .ok (.iload_n 1, 1) := by decide +kernel
theorem d_Model_run_2 : decode prog_9_method_38_code 2 = .ok (.invokevirtual 128, 3) := by decide +kernel
theorem d_Model_run_5 : decode prog_9_method_38_code 5 = .ok (.ifCond .ne 5, 3) := by decide +kernel
theorem d_Model_run_8 : decode prog_9_method_38_code 8 = .ok (.iconst (-1), 1) := by decide +kernel
theorem d_Model_run_9 : decode prog_9_method_38_code 9 = .ok (.ireturn, 1) := by decide +kernel
theorem d_Model_run_10 : decode prog_9_method_38_code 10 = .ok (.aload_n 0, 1) := by decide +kernel
theorem d_Model_run_11 : decode prog_9_method_38_code 11 = .ok (.getfield 78, 3) := by decide +kernel
theorem d_Model_run_14 : decode prog_9_method_38_code 14 = .ok (.ifCond .ne 6, 3) := by decide +kernel
theorem d_Model_run_17 : decode prog_9_method_38_code 17 = .ok (.bipush (-5), 2) := by decide +kernel
theorem d_Model_run_19 : decode prog_9_method_38_code 19 = .ok (.ireturn, 1) := by decide +kernel
theorem d_Model_run_20 : decode prog_9_method_38_code 20 = .ok (.aload_n 0, 1) := by decide +kernel
theorem d_Model_run_21 : decode prog_9_method_38_code 21 = .ok (.getfield 106, 3) := by decide +kernel
theorem d_Model_run_24 : decode prog_9_method_38_code 24 = .ok (.iconst 4, 1) := by decide +kernel
theorem d_Model_run_25 : decode prog_9_method_38_code 25 = .ok (.if_icmp .ne 6, 3) := by decide +kernel
theorem d_Model_run_28 : decode prog_9_method_38_code 28 = .ok (.bipush (-3), 2) := by decide +kernel
theorem d_Model_run_30 : decode prog_9_method_38_code 30 = .ok (.ireturn, 1) := by decide +kernel
theorem d_Model_run_31 : decode prog_9_method_38_code 31 = .ok (.aload_n 0, 1) := by decide +kernel
theorem d_Model_run_32 : decode prog_9_method_38_code 32 = .ok (.aload_n 0, 1) := by decide +kernel
theorem d_Model_run_33 : decode prog_9_method_38_code 33 = .ok (.getfield 19, 3) := by decide +kernel
theorem d_Model_run_36 : decode prog_9_method_38_code 36 = .ok (.iload_n 1, 1) := by decide +kernel
theorem d_Model_run_37 : decode prog_9_method_38_code 37 = .ok (.iaload, 1) := by decide +kernel
theorem d_Model_run_38 : decode prog_9_method_38_code 38 = .ok (.invokevirtual 203, 3) := by decide +kernel
theorem d_Model_run_41 : decode prog_9_method_38_code 41 = .ok (.aload_n 0, 1) := by decide +kernel
theorem d_Model_run_42 : decode prog_9_method_38_code 42 = .ok (.getfield 28, 3) := by decide +kernel
theorem d_Model_run_45 : decode prog_9_method_38_code 45 = .ok (.aload_n 0, 1) := by decide +kernel
theorem d_Model_run_46 : decode prog_9_method_38_code 46 = .ok (.getfield 106, 3) := by decide +kernel
theorem d_Model_run_49 : decode prog_9_method_38_code 49 = .ok (.iload_n 1, 1) := by decide +kernel
theorem d_Model_run_50 : decode prog_9_method_38_code 50 = .ok (.iastore, 1) := by decide +kernel
theorem d_Model_run_51 : decode prog_9_method_38_code 51 = .ok (.aload_n 0, 1) := by decide +kernel
theorem d_Model_run_52 : decode prog_9_method_38_code 52 = .ok (.getfield 40, 3) := by decide +kernel
theorem d_Model_run_55 : decode prog_9_method_38_code 55 = .ok (.aload_n 0, 1) := by decide +kernel
theorem d_Model_run_56 : decode prog_9_method_38_code 56 = .ok (.getfield 106, 3) := by decide +kernel
theorem d_Model_run_59 : decode prog_9_method_38_code 59 = .ok (.bipush (-2), 2) := by decide +kernel
theorem d_Model_run_61 : decode prog_9_method_38_code 61 = .ok (.iastore, 1) := by decide +kernel
theorem d_Model_run_62 : decode prog_9_method_38_code 62 = .ok (.aload_n 0, 1) := by decide +kernel
theorem d_Model_run_63 : decode prog_9_method_38_code 63 = .ok (.getfield 43, 3) := by decide +kernel
theorem d_Model_run_66 : decode prog_9_method_38_code 66 = .ok (.aload_n 0, 1) := by decide +kernel
theorem d_Model_run_67 : decode prog_9_method_38_code 67 = .ok (.getfield 106, 3) := by decide +kernel
theorem d_Model_run_70 : decode prog_9_method_38_code 70 = .ok (.bipush (-2), 2) := by decide +kernel
theorem d_Model_run_72 : decode prog_9_method_38_code 72 = .ok (.iastore, 1) := by decide +kernel
theorem d_Model_run_73 : decode prog_9_method_38_code 73 = .ok (.aload_n 0, 1) := by decide +kernel
theorem d_Model_run_74 : decode prog_9_method_38_code 74 = .ok (.aload_n 0, 1) := by decide +kernel
theorem d_Model_run_75 : decode prog_9_method_38_code 75 = .ok (.getfield 106, 3) := by decide +kernel
theorem d_Model_run_78 : decode prog_9_method_38_code 78 = .ok (.invokevirtual 207, 3) := by decide +kernel
theorem d_Model_run_81 : decode prog_9_method_38_code 81 = .ok (.aload_n 0, 1) := by decide +kernel
theorem d_Model_run_82 : decode prog_9_method_38_code 82 = .ok (.dup, 1) := by decide +kernel
theorem d_Model_run_83 : decode prog_9_method_38_code 83 = .ok (.getfield 106, 3) := by decide +kernel
theorem d_Model_run_86 : decode prog_9_method_38_code 86 = .ok (.iconst 1, 1) := by decide +kernel
theorem d_Model_run_87 : decode prog_9_method_38_code 87 = .ok (.iadd, 1) := by decide +kernel
theorem d_Model_run_88 : decode prog_9_method_38_code 88 = .ok (.putfield 106, 3) := by decide +kernel
theorem d_Model_run_91 : decode prog_9_method_38_code 91 = .ok (.aload_n 0, 1) := by decide +kernel
theorem d_Model_run_92 : decode prog_9_method_38_code 92 = .ok (.getfield 106, 3) := by decide +kernel
theorem d_Model_run_95 : decode prog_9_method_38_code 95 = .ok (.iconst 1, 1) := by decide +kernel
theorem d_Model_run_96 : decode prog_9_method_38_code 96 = .ok (.isub, 1) := by decide +kernel
theorem d_Model_run_97 : decode prog_9_method_38_code 97 = .ok (.ireturn, 1) := by decide +kernel
set_option maxHeartbeats 4000000 in
set_option maxRecDepth 100000 in
theorem r_Model_run_0 {p : Program} {l : Launch} {e : Env} {s : State} {m : MethodId} {args : Array Value} {below : List Frame} {meth : Method} {c : Code} {G : zG} {K : Nat} (X : zX p s m args meth c "AllHomeModel" prog_9_method_38_code 2 (some .int) G (zA G K)) {r : Int32} {h' : zH} (a0 : Nat) (x1 : Int32) (h : zH) (hm : m_Model_run a0 x1 h = some (r, h')) {H : Heap} {locs : List Loc} {ls : Array Slot} (hI : zI G K s (zA G K) H locs h) (hl : lv_has ls 2 [(0, .ref (G.1 a0)), (1, .int x1)]) : W p l e (zR 1) s m args below meth c H locs 0 0 (MQ below (zQi G K r h') args s 0 0 (zA G K)) (F0 m 0 ls []) := by
  obtain ⟨hx, hb, hml, hown, hts, hr, hlocks, hK, hST, hNs⟩ := id X
  unfold m_Model_run at hm
  refine lv_aload_n hx hb d_Model_run_0 rfl (lv_at hl 0 rfl) ?_
  refine lv_iload_n hx hb d_Model_run_1 rfl (lv_at hl 1 rfl) ?_
  obtain ⟨v2, hv, hm⟩ := zbd hm
  obtain ⟨hq, hv⟩ := zcv_at hv
  refine z_ci hI (z_runV (As := [.int x1]) (rest := []) X hI hl.1 (c_Model_isWay l G K a0 x1 h _ hv) C_Model_128 rfl hq (Nat.le_of_ble_eq_true rfl) ⟨Nat.le_of_ble_eq_true rfl, Nat.le_of_ble_eq_true rfl, Nat.zero_le _, Nat.zero_le _⟩ rfl d_Model_run_2) (fun H locs hI => ?_)
  refine lv_if_ne (tgt := 10) hx hb d_Model_run_5 (by decide) (fun hc5 => ?_) (fun hc5 => ?_)
  · replace hm := zif_f hc5 hm
    refine lv_aload_n hx hb d_Model_run_10 rfl (lv_at hl 0 rfl) ?_
    obtain ⟨v11, hv, hm⟩ := zbd hm
    refine z_getI X hI F_Model_78 hv d_Model_run_11 ?_
    refine lv_if_ne (tgt := 20) hx hb d_Model_run_14 (by decide) (fun hc14 => ?_) (fun hc14 => ?_)
    · replace hm := zif_f hc14 hm
      refine lv_aload_n hx hb d_Model_run_20 rfl (lv_at hl 0 rfl) ?_
      obtain ⟨v21, hv, hm⟩ := zbd hm
      refine z_getI X hI F_Model_106 hv d_Model_run_21 ?_
      refine lv_iconst (v := (nI 4)) hx hb d_Model_run_24 (by decide) ?_
      refine lv_icmp_ne (tgt := 31) hx hb d_Model_run_25 (by decide) (fun hc25 => ?_) (fun hc25 => ?_)
      · replace hm := zif_f hc25 hm
        refine lv_aload_n hx hb d_Model_run_31 rfl (lv_at hl 0 rfl) ?_
        refine lv_aload_n hx hb d_Model_run_32 rfl (lv_at hl 0 rfl) ?_
        obtain ⟨v33, hv, hm⟩ := zbd hm
        refine z_getR X hI F_Model_19 hv d_Model_run_33 ?_
        refine lv_iload_n hx hb d_Model_run_36 rfl (lv_at hl 1 rfl) ?_
        obtain ⟨v37, hv, hm⟩ := zbd hm
        refine z_iald X hI hv d_Model_run_37 ?_
        obtain ⟨h38, hv, hm⟩ := zbd hm
        obtain ⟨hq, hv⟩ := zcv_at hv
        refine z_cv hI (z_runV (As := [.int v37]) (rest := []) X hI hl.1 (c_Model_begin l G K a0 v37 h _ hv) C_Model_203 rfl hq (Nat.le_of_ble_eq_true rfl) ⟨Nat.le_of_ble_eq_true rfl, Nat.le_of_ble_eq_true rfl, Nat.zero_le _, Nat.zero_le _⟩ rfl d_Model_run_38) (fun H locs hI => ?_)
        refine lv_aload_n hx hb d_Model_run_41 rfl (lv_at hl 0 rfl) ?_
        obtain ⟨v42, hv, hm⟩ := zbd hm
        refine z_getR X hI F_Model_28 hv d_Model_run_42 ?_
        refine lv_aload_n hx hb d_Model_run_45 rfl (lv_at hl 0 rfl) ?_
        obtain ⟨v46, hv, hm⟩ := zbd hm
        refine z_getI X hI F_Model_106 hv d_Model_run_46 ?_
        refine lv_iload_n hx hb d_Model_run_49 rfl (lv_at hl 1 rfl) ?_
        obtain ⟨h50, hv, hm⟩ := zbd hm
        refine z_iast X hI hv d_Model_run_50 (fun H locs hI => ?_)
        refine lv_aload_n hx hb d_Model_run_51 rfl (lv_at hl 0 rfl) ?_
        obtain ⟨v52, hv, hm⟩ := zbd hm
        refine z_getR X hI F_Model_40 hv d_Model_run_52 ?_
        refine lv_aload_n hx hb d_Model_run_55 rfl (lv_at hl 0 rfl) ?_
        obtain ⟨v56, hv, hm⟩ := zbd hm
        refine z_getI X hI F_Model_106 hv d_Model_run_56 ?_
        refine lv_bipush (v := (-2 : Int32)) hx hb d_Model_run_59 (by decide) ?_
        obtain ⟨h61, hv, hm⟩ := zbd hm
        refine z_iast X hI hv d_Model_run_61 (fun H locs hI => ?_)
        refine lv_aload_n hx hb d_Model_run_62 rfl (lv_at hl 0 rfl) ?_
        obtain ⟨v63, hv, hm⟩ := zbd hm
        refine z_getR X hI F_Model_43 hv d_Model_run_63 ?_
        refine lv_aload_n hx hb d_Model_run_66 rfl (lv_at hl 0 rfl) ?_
        obtain ⟨v67, hv, hm⟩ := zbd hm
        refine z_getI X hI F_Model_106 hv d_Model_run_67 ?_
        refine lv_bipush (v := (-2 : Int32)) hx hb d_Model_run_70 (by decide) ?_
        obtain ⟨h72, hv, hm⟩ := zbd hm
        refine z_iast X hI hv d_Model_run_72 (fun H locs hI => ?_)
        refine lv_aload_n hx hb d_Model_run_73 rfl (lv_at hl 0 rfl) ?_
        refine lv_aload_n hx hb d_Model_run_74 rfl (lv_at hl 0 rfl) ?_
        obtain ⟨v75, hv, hm⟩ := zbd hm
        refine z_getI X hI F_Model_106 hv d_Model_run_75 ?_
        obtain ⟨h78, hv, hm⟩ := zbd hm
        obtain ⟨hq, hv⟩ := zcv_at hv
        refine z_cv hI (z_runV (As := [.int v75]) (rest := []) X hI hl.1 (c_Model_keepRun l G K a0 v75 h72 _ hv) C_Model_207 rfl hq (Nat.le_of_ble_eq_true rfl) ⟨Nat.le_of_ble_eq_true rfl, Nat.le_of_ble_eq_true rfl, Nat.zero_le _, Nat.zero_le _⟩ rfl d_Model_run_78) (fun H locs hI => ?_)
        refine lv_aload_n hx hb d_Model_run_81 rfl (lv_at hl 0 rfl) ?_
        refine lv_dup hx hb d_Model_run_82 rfl ?_
        obtain ⟨v83, hv, hm⟩ := zbd hm
        refine z_getI X hI F_Model_106 hv d_Model_run_83 ?_
        refine lv_iconst (v := (nI 1)) hx hb d_Model_run_86 (by decide) ?_
        refine lv_iadd hx hb d_Model_run_87 ?_
        obtain ⟨h88, hv, hm⟩ := zbd hm
        refine z_putI X hI P_Model_106 hv d_Model_run_88 (fun H locs hI => ?_)
        refine lv_aload_n hx hb d_Model_run_91 rfl (lv_at hl 0 rfl) ?_
        obtain ⟨v92, hv, hm⟩ := zbd hm
        refine z_getI X hI F_Model_106 hv d_Model_run_92 ?_
        refine lv_iconst (v := (nI 1)) hx hb d_Model_run_95 (by decide) ?_
        refine lv_isub hx hb d_Model_run_96 ?_
        obtain ⟨rfl, rfl⟩ := zs2 hm
        exact z_iret X hI d_Model_run_97
      · replace hm := zif_t hc25 hm
        refine lv_bipush (v := (-3 : Int32)) hx hb d_Model_run_28 (by decide) ?_
        obtain ⟨rfl, rfl⟩ := zs2 hm
        exact z_iret X hI d_Model_run_30
    · replace hm := zif_t hc14 hm
      refine lv_bipush (v := (-5 : Int32)) hx hb d_Model_run_17 (by decide) ?_
      obtain ⟨rfl, rfl⟩ := zs2 hm
      exact z_iret X hI d_Model_run_19
  · replace hm := zif_t hc5 hm
    refine lv_iconst (v := (-1 : Int32)) hx hb d_Model_run_8 (by decide) ?_
    obtain ⟨rfl, rfl⟩ := zs2 hm
    exact z_iret X hI d_Model_run_9
set_option maxHeartbeats 4000000 in
set_option maxRecDepth 100000 in
theorem c_Model_run (l : Launch) (G : zG) (K : Nat) (a0 : Nat) (x1 : Int32) (h : zH) (r : Int32) (h' : zH) (hm : m_Model_run a0 x1 h = some (r, h')) : zMi l G K y_Model_run prog_9_method_38_code 2 1 [.ref (G.1 a0), .int x1] h r h' := zMet (by decide +kernel) (Nat.le_of_ble_eq_true rfl) (fun p e s m below meth c ls X hI hl => r_Model_run_0 X a0 x1 h hm hI hl)
-- walk of AllHomeModel.isRun
theorem d_Model_isRun_0 : decode prog_9_method_39_code 0 = .ok (.iload_n 1, 1) := by decide +kernel
theorem d_Model_isRun_1 : decode prog_9_method_39_code 1 = .ok (.ifCond .lt 15, 3) := by decide +kernel
theorem d_Model_isRun_4 : decode prog_9_method_39_code 4 = .ok (.iload_n 1, 1) := by decide +kernel
theorem d_Model_isRun_5 : decode prog_9_method_39_code 5 = .ok (.aload_n 0, 1) := by decide +kernel
theorem d_Model_isRun_6 : decode prog_9_method_39_code 6 = .ok (.getfield 106, 3) := by decide +kernel
theorem d_Model_isRun_9 : decode prog_9_method_39_code 9 = .ok (.if_icmp .ge 7, 3) := by decide +kernel
theorem d_Model_isRun_12 : decode prog_9_method_39_code 12 = .ok (.iconst 1, 1) := by decide +kernel
theorem d_Model_isRun_13 : decode prog_9_method_39_code 13 = .ok (.goto 4, 3) := by decide +kernel
theorem d_Model_isRun_16 : decode prog_9_method_39_code 16 = .ok (.iconst 0, 1) := by decide +kernel
theorem d_Model_isRun_17 : decode prog_9_method_39_code 17 = .ok (.ireturn, 1) := by decide +kernel
set_option maxHeartbeats 4000000 in
set_option maxRecDepth 100000 in
theorem r_Model_isRun_0 {p : Program} {l : Launch} {e : Env} {s : State} {m : MethodId} {args : Array Value} {below : List Frame} {meth : Method} {c : Code} {G : zG} {K : Nat} (X : zX p s m args meth c "AllHomeModel" prog_9_method_39_code 2 (some .boolean) G (zA G K)) {r : Int32} (a0 : Nat) (x1 : Int32) (h : zH) (hm : m_Model_isRun a0 x1 h = some r) {H : Heap} {locs : List Loc} {ls : Array Slot} (hI : zI G K s (zA G K) H locs h) (hl : lv_has ls 2 [(0, .ref (G.1 a0)), (1, .int x1)]) : W p l e (zR 0) s m args below meth c H locs 0 0 (MQ below (zQi G K r h) args s 0 0 (zA G K)) (F0 m 0 ls []) := by
  obtain ⟨hx, hb, hml, hown, hts, hr, hlocks, hK, hST, hNs⟩ := id X
  unfold m_Model_isRun at hm
  refine lv_iload_n hx hb d_Model_isRun_0 rfl (lv_at hl 1 rfl) ?_
  refine lv_if_lt (tgt := 16) hx hb d_Model_isRun_1 (by decide) (fun hc1 => ?_) (fun hc1 => ?_)
  · replace hm := zif_t hc1 hm
    refine lv_iconst (v := (nI 0)) hx hb d_Model_isRun_16 (by decide) ?_
    obtain rfl := zs1 hm
    exact z_zret X hI (by decide) d_Model_isRun_17
  · replace hm := zif_f hc1 hm
    refine lv_iload_n hx hb d_Model_isRun_4 rfl (lv_at hl 1 rfl) ?_
    refine lv_aload_n hx hb d_Model_isRun_5 rfl (lv_at hl 0 rfl) ?_
    obtain ⟨v6, hv, hm⟩ := zbd hm
    refine z_getI X hI F_Model_106 hv d_Model_isRun_6 ?_
    refine lv_icmp_ge (tgt := 16) hx hb d_Model_isRun_9 (by decide) (fun hc9 => ?_) (fun hc9 => ?_)
    · replace hm := zif_t hc9 hm
      refine lv_iconst (v := (nI 0)) hx hb d_Model_isRun_16 (by decide) ?_
      obtain rfl := zs1 hm
      exact z_zret X hI (by decide) d_Model_isRun_17
    · replace hm := zif_f hc9 hm
      refine lv_iconst (v := (nI 1)) hx hb d_Model_isRun_12 (by decide) ?_
      refine lv_goto (tgt := 17) hx hb d_Model_isRun_13 (by decide) ?_
      obtain rfl := zs1 hm
      exact z_zret X hI (by decide) d_Model_isRun_17
set_option maxHeartbeats 4000000 in
set_option maxRecDepth 100000 in
theorem c_Model_isRun (l : Launch) (G : zG) (K : Nat) (a0 : Nat) (x1 : Int32) (h : zH) (r : Int32) (hm : m_Model_isRun a0 x1 h = some r) : zMz l G K y_Model_isRun prog_9_method_39_code 2 0 [.ref (G.1 a0), .int x1] h r h := zMet (by decide +kernel) (Nat.le_of_ble_eq_true rfl) (fun p e s m below meth c ls X hI hl => r_Model_isRun_0 X a0 x1 h hm hI hl)
-- walk of AllHomeModel.stepOf
theorem d_Model_stepOf_0 : decode prog_9_method_40_code 0 = .ok (.aload_n 0, 1) := by decide +kernel
theorem d_Model_stepOf_1 : decode prog_9_method_40_code 1 = .ok (.iload_n 1, 1) := by decide +kernel
theorem d_Model_stepOf_2 : decode prog_9_method_40_code 2 = .ok (.invokevirtual 210, 3) := by decide +kernel
theorem d_Model_stepOf_5 : decode prog_9_method_40_code 5 = .ok (.aload_n 0, 1) := by decide +kernel
theorem d_Model_stepOf_6 : decode prog_9_method_40_code 6 = .ok (.iload_n 2, 1) := by decide +kernel
theorem d_Model_stepOf_7 : decode prog_9_method_40_code 7 = .ok (.iload_n 3, 1) := by decide +kernel
theorem d_Model_stepOf_8 : decode prog_9_method_40_code 8 = .ok (.invokevirtual 213, 3) := by decide +kernel
theorem d_Model_stepOf_11 : decode prog_9_method_40_code 11 = .ok (.istore 4, 2) := by decide +kernel
theorem d_Model_stepOf_13 : decode prog_9_method_40_code 13 = .ok (.iload 4, 2) := by decide +kernel
theorem d_Model_stepOf_15 : decode prog_9_method_40_code 15 = .ok (.ifCond .ge 6, 3) := by decide +kernel
theorem d_Model_stepOf_18 : decode prog_9_method_40_code 18 = .ok (.iload 4, 2) := by decide +kernel
theorem d_Model_stepOf_20 : decode prog_9_method_40_code 20 = .ok (.ireturn, 1) := by decide +kernel
theorem d_Model_stepOf_21 : decode prog_9_method_40_code 21 = .ok (.aload_n 0, 1) := by decide +kernel
theorem d_Model_stepOf_22 : decode prog_9_method_40_code 22 = .ok (.iload_n 1, 1) := by decide +kernel
theorem d_Model_stepOf_23 : decode prog_9_method_40_code 23 = .ok (.invokevirtual 207, 3) := by decide +kernel
theorem d_Model_stepOf_26 : decode prog_9_method_40_code 26 = .ok (.aload_n 0, 1) := by decide +kernel
theorem d_Model_stepOf_27 : decode prog_9_method_40_code 27 = .ok (.getfield 31, 3) := by decide +kernel
theorem d_Model_stepOf_30 : decode prog_9_method_40_code 30 = .ok (.iload_n 1, 1) := by decide +kernel
theorem d_Model_stepOf_31 : decode prog_9_method_40_code 31 = .ok (.dup2, 1) := by decide +kernel
theorem d_Model_stepOf_32 : decode prog_9_method_40_code 32 = .ok (.iaload, 1) := by decide +kernel
theorem d_Model_stepOf_33 : decode prog_9_method_40_code 33 = .ok (.iconst 1, 1) := by decide +kernel
theorem d_Model_stepOf_34 : decode prog_9_method_40_code 34 = .ok (.iadd, 1) := by decide +kernel
theorem d_Model_stepOf_35 : decode prog_9_method_40_code 35 = .ok (.iastore, 1) := by decide +kernel
theorem d_Model_stepOf_36 : decode prog_9_method_40_code 36 = .ok (.aload_n 0, 1) := by decide +kernel
theorem d_Model_stepOf_37 : decode prog_9_method_40_code 37 = .ok (.getfield 40, 3) := by decide +kernel
theorem d_Model_stepOf_40 : decode prog_9_method_40_code 40 = .ok (.iload_n 1, 1) := by decide +kernel
theorem d_Model_stepOf_41 : decode prog_9_method_40_code 41 = .ok (.aload_n 0, 1) := by decide +kernel
theorem d_Model_stepOf_42 : decode prog_9_method_40_code 42 = .ok (.getfield 22, 3) := by decide +kernel
theorem d_Model_stepOf_45 : decode prog_9_method_40_code 45 = .ok (.bipush 87, 2) := by decide +kernel
theorem d_Model_stepOf_47 : decode prog_9_method_40_code 47 = .ok (.iaload, 1) := by decide +kernel
theorem d_Model_stepOf_48 : decode prog_9_method_40_code 48 = .ok (.iconst 1, 1) := by decide +kernel
theorem d_Model_stepOf_49 : decode prog_9_method_40_code 49 = .ok (.if_icmp .ne 21, 3) := by decide +kernel
theorem d_Model_stepOf_52 : decode prog_9_method_40_code 52 = .ok (.aload_n 0, 1) := by decide +kernel
theorem d_Model_stepOf_53 : decode prog_9_method_40_code 53 = .ok (.getfield 40, 3) := by decide +kernel
theorem d_Model_stepOf_56 : decode prog_9_method_40_code 56 = .ok (.iload_n 1, 1) := by decide +kernel
theorem d_Model_stepOf_57 : decode prog_9_method_40_code 57 = .ok (.iaload, 1) := by decide +kernel
theorem d_Model_stepOf_58 : decode prog_9_method_40_code 58 = .ok (.ifCond .ge 12, 3) := by decide +kernel
theorem d_Model_stepOf_61 : decode prog_9_method_40_code 61 = .ok (.aload_n 0, 1) := by decide +kernel
theorem d_Model_stepOf_62 : decode prog_9_method_40_code 62 = .ok (.getfield 31, 3) := by decide +kernel
theorem d_Model_stepOf_65 : decode prog_9_method_40_code 65 = .ok (.iload_n 1, 1) := by decide +kernel
theorem d_Model_stepOf_66 : decode prog_9_method_40_code 66 = .ok (.iaload, 1) := by decide +kernel
theorem d_Model_stepOf_67 : decode prog_9_method_40_code 67 = .ok (.goto 9, 3) := by decide +kernel
theorem d_Model_stepOf_70 : decode prog_9_method_40_code 70 = .ok (.aload_n 0, 1) := by decide +kernel
theorem d_Model_stepOf_71 : decode prog_9_method_40_code 71 = .ok (.getfield 40, 3) := by decide +kernel
theorem d_Model_stepOf_74 : decode prog_9_method_40_code 74 = .ok (.iload_n 1, 1) := by decide +kernel
theorem d_Model_stepOf_75 : decode prog_9_method_40_code 75 = .ok (.iaload, 1) := by decide +kernel
theorem d_Model_stepOf_76 : decode prog_9_method_40_code 76 = .ok (.iastore, 1) := by decide +kernel
theorem d_Model_stepOf_77 : decode prog_9_method_40_code 77 = .ok (.aload_n 0, 1) := by decide +kernel
theorem d_Model_stepOf_78 : decode prog_9_method_40_code 78 = .ok (.getfield 43, 3) := by decide +kernel
theorem d_Model_stepOf_81 : decode prog_9_method_40_code 81 = .ok (.iload_n 1, 1) := by decide +kernel
theorem d_Model_stepOf_82 : decode prog_9_method_40_code 82 = .ok (.aload_n 0, 1) := by decide +kernel
theorem d_Model_stepOf_83 : decode prog_9_method_40_code 83 = .ok (.invokevirtual 216, 3) := by decide +kernel
theorem d_Model_stepOf_86 : decode prog_9_method_40_code 86 = .ok (.ifCond .ne 8, 3) := by decide +kernel
theorem d_Model_stepOf_89 : decode prog_9_method_40_code 89 = .ok (.bipush (-2), 2) := by decide +kernel
theorem d_Model_stepOf_91 : decode prog_9_method_40_code 91 = .ok (.goto 27, 3) := by decide +kernel
theorem d_Model_stepOf_94 : decode prog_9_method_40_code 94 = .ok (.aload_n 0, 1) := by decide +kernel
theorem d_Model_stepOf_95 : decode prog_9_method_40_code 95 = .ok (.getfield 43, 3) := by decide +kernel
theorem d_Model_stepOf_98 : decode prog_9_method_40_code 98 = .ok (.iload_n 1, 1) := by decide +kernel
theorem d_Model_stepOf_99 : decode prog_9_method_40_code 99 = .ok (.iaload, 1) := by decide +kernel
theorem d_Model_stepOf_100 : decode prog_9_method_40_code 100 = .ok (.ifCond .ge 12, 3) := by decide +kernel
theorem d_Model_stepOf_103 : decode prog_9_method_40_code 103 = .ok (.aload_n 0, 1) := by decide +kernel
theorem d_Model_stepOf_104 : decode prog_9_method_40_code 104 = .ok (.getfield 31, 3) := by decide +kernel
theorem d_Model_stepOf_107 : decode prog_9_method_40_code 107 = .ok (.iload_n 1, 1) := by decide +kernel
theorem d_Model_stepOf_108 : decode prog_9_method_40_code 108 = .ok (.iaload, 1) := by decide +kernel
theorem d_Model_stepOf_109 : decode prog_9_method_40_code 109 = .ok (.goto 9, 3) := by decide +kernel
theorem d_Model_stepOf_112 : decode prog_9_method_40_code 112 = .ok (.aload_n 0, 1) := by decide +kernel
theorem d_Model_stepOf_113 : decode prog_9_method_40_code 113 = .ok (.getfield 43, 3) := by decide +kernel
theorem d_Model_stepOf_116 : decode prog_9_method_40_code 116 = .ok (.iload_n 1, 1) := by decide +kernel
theorem d_Model_stepOf_117 : decode prog_9_method_40_code 117 = .ok (.iaload, 1) := by decide +kernel
theorem d_Model_stepOf_118 : decode prog_9_method_40_code 118 = .ok (.iastore, 1) := by decide +kernel
theorem d_Model_stepOf_119 : decode prog_9_method_40_code 119 = .ok (.aload_n 0, 1) := by decide +kernel
theorem d_Model_stepOf_120 : decode prog_9_method_40_code 120 = .ok (.getfield 31, 3) := by decide +kernel
theorem d_Model_stepOf_123 : decode prog_9_method_40_code 123 = .ok (.iload_n 1, 1) := by decide +kernel
theorem d_Model_stepOf_124 : decode prog_9_method_40_code 124 = .ok (.iaload, 1) := by decide +kernel
theorem d_Model_stepOf_125 : decode prog_9_method_40_code 125 = .ok (.ireturn, 1) := by decide +kernel
set_option maxHeartbeats 4000000 in
set_option maxRecDepth 100000 in
theorem r_Model_stepOf_76 {p : Program} {l : Launch} {e : Env} {s : State} {m : MethodId} {args : Array Value} {below : List Frame} {meth : Method} {c : Code} {G : zG} {K : Nat} (X : zX p s m args meth c "AllHomeModel" prog_9_method_40_code 5 (some .int) G (zA G K)) {r : Int32} {h' : zH} (a0 : Nat) (x1 : Int32) (c0 : Nat) (y1 : Int32) (y2 : Int32) (h : zH) (hm : g_Model_stepOf_76 a0 x1 c0 y1 y2 h = some (r, h')) {H : Heap} {locs : List Loc} {ls : Array Slot} (hI : zI G K s (zA G K) H locs h) (hl : lv_has ls 5 [(0, .ref (G.1 a0)), (1, .int x1)]) : W p l e (zR 5) s m args below meth c H locs 0 0 (MQ below (zQi G K r h') args s 0 0 (zA G K)) (F0 m 76 ls [.int y2, .int y1, .ref (G.1 c0)]) := by
  obtain ⟨hx, hb, hml, hown, hts, hr, hlocks, hK, hST, hNs⟩ := id X
  unfold g_Model_stepOf_76 at hm
  obtain ⟨h76, hv, hm⟩ := zbd hm
  refine z_iast X hI hv d_Model_stepOf_76 (fun H locs hI => ?_)
  refine lv_aload_n hx hb d_Model_stepOf_77 rfl (lv_at hl 0 rfl) ?_
  obtain ⟨v78, hv, hm⟩ := zbd hm
  refine z_getR X hI F_Model_43 hv d_Model_stepOf_78 ?_
  refine lv_iload_n hx hb d_Model_stepOf_81 rfl (lv_at hl 1 rfl) ?_
  refine lv_aload_n hx hb d_Model_stepOf_82 rfl (lv_at hl 0 rfl) ?_
  obtain ⟨v83, hv, hm⟩ := zbd hm
  obtain ⟨hq, hv⟩ := zcv_at hv
  refine z_ci hI (z_runV (As := []) (rest := [.int x1, .ref (G.1 v78)]) X hI hl.1 (c_Model_isOver l G K a0 h76 _ hv) C_Model_216 rfl hq (Nat.le_of_ble_eq_true rfl) ⟨Nat.le_of_ble_eq_true rfl, Nat.le_of_ble_eq_true rfl, Nat.zero_le _, Nat.zero_le _⟩ rfl d_Model_stepOf_83) (fun H locs hI => ?_)
  refine lv_if_ne (tgt := 94) hx hb d_Model_stepOf_86 (by decide) (fun hc86 => ?_) (fun hc86 => ?_)
  · replace hm := zif_f hc86 hm
    refine lv_aload_n hx hb d_Model_stepOf_94 rfl (lv_at hl 0 rfl) ?_
    obtain ⟨v95, hv, hm⟩ := zbd hm
    refine z_getR X hI F_Model_43 hv d_Model_stepOf_95 ?_
    refine lv_iload_n hx hb d_Model_stepOf_98 rfl (lv_at hl 1 rfl) ?_
    obtain ⟨v99, hv, hm⟩ := zbd hm
    refine z_iald X hI hv d_Model_stepOf_99 ?_
    refine lv_if_ge (tgt := 112) hx hb d_Model_stepOf_100 (by decide) (fun hc100 => ?_) (fun hc100 => ?_)
    · replace hm := zif_t hc100 hm
      refine lv_aload_n hx hb d_Model_stepOf_112 rfl (lv_at hl 0 rfl) ?_
      obtain ⟨v113, hv, hm⟩ := zbd hm
      refine z_getR X hI F_Model_43 hv d_Model_stepOf_113 ?_
      refine lv_iload_n hx hb d_Model_stepOf_116 rfl (lv_at hl 1 rfl) ?_
      obtain ⟨v117, hv, hm⟩ := zbd hm
      refine z_iald X hI hv d_Model_stepOf_117 ?_
      obtain ⟨h118, hv, hm⟩ := zbd hm
      refine z_iast X hI hv d_Model_stepOf_118 (fun H locs hI => ?_)
      refine lv_aload_n hx hb d_Model_stepOf_119 rfl (lv_at hl 0 rfl) ?_
      obtain ⟨v120, hv, hm⟩ := zbd hm
      refine z_getR X hI F_Model_31 hv d_Model_stepOf_120 ?_
      refine lv_iload_n hx hb d_Model_stepOf_123 rfl (lv_at hl 1 rfl) ?_
      obtain ⟨v124, hv, hm⟩ := zbd hm
      refine z_iald X hI hv d_Model_stepOf_124 ?_
      obtain ⟨rfl, rfl⟩ := zs2 hm
      exact z_iret X hI d_Model_stepOf_125
    · replace hm := zif_f hc100 hm
      refine lv_aload_n hx hb d_Model_stepOf_103 rfl (lv_at hl 0 rfl) ?_
      obtain ⟨v104, hv, hm⟩ := zbd hm
      refine z_getR X hI F_Model_31 hv d_Model_stepOf_104 ?_
      refine lv_iload_n hx hb d_Model_stepOf_107 rfl (lv_at hl 1 rfl) ?_
      obtain ⟨v108, hv, hm⟩ := zbd hm
      refine z_iald X hI hv d_Model_stepOf_108 ?_
      refine lv_goto (tgt := 118) hx hb d_Model_stepOf_109 (by decide) ?_
      obtain ⟨h118, hv, hm⟩ := zbd hm
      refine z_iast X hI hv d_Model_stepOf_118 (fun H locs hI => ?_)
      refine lv_aload_n hx hb d_Model_stepOf_119 rfl (lv_at hl 0 rfl) ?_
      obtain ⟨v120, hv, hm⟩ := zbd hm
      refine z_getR X hI F_Model_31 hv d_Model_stepOf_120 ?_
      refine lv_iload_n hx hb d_Model_stepOf_123 rfl (lv_at hl 1 rfl) ?_
      obtain ⟨v124, hv, hm⟩ := zbd hm
      refine z_iald X hI hv d_Model_stepOf_124 ?_
      obtain ⟨rfl, rfl⟩ := zs2 hm
      exact z_iret X hI d_Model_stepOf_125
  · replace hm := zif_t hc86 hm
    refine lv_bipush (v := (-2 : Int32)) hx hb d_Model_stepOf_89 (by decide) ?_
    refine lv_goto (tgt := 118) hx hb d_Model_stepOf_91 (by decide) ?_
    obtain ⟨h118, hv, hm⟩ := zbd hm
    refine z_iast X hI hv d_Model_stepOf_118 (fun H locs hI => ?_)
    refine lv_aload_n hx hb d_Model_stepOf_119 rfl (lv_at hl 0 rfl) ?_
    obtain ⟨v120, hv, hm⟩ := zbd hm
    refine z_getR X hI F_Model_31 hv d_Model_stepOf_120 ?_
    refine lv_iload_n hx hb d_Model_stepOf_123 rfl (lv_at hl 1 rfl) ?_
    obtain ⟨v124, hv, hm⟩ := zbd hm
    refine z_iald X hI hv d_Model_stepOf_124 ?_
    obtain ⟨rfl, rfl⟩ := zs2 hm
    exact z_iret X hI d_Model_stepOf_125
set_option maxHeartbeats 4000000 in
set_option maxRecDepth 100000 in
theorem r_Model_stepOf_0 {p : Program} {l : Launch} {e : Env} {s : State} {m : MethodId} {args : Array Value} {below : List Frame} {meth : Method} {c : Code} {G : zG} {K : Nat} (X : zX p s m args meth c "AllHomeModel" prog_9_method_40_code 5 (some .int) G (zA G K)) {r : Int32} {h' : zH} (a0 : Nat) (x1 : Int32) (x2 : Int32) (x3 : Int32) (h : zH) (hm : m_Model_stepOf a0 x1 x2 x3 h = some (r, h')) {H : Heap} {locs : List Loc} {ls : Array Slot} (hI : zI G K s (zA G K) H locs h) (hl : lv_has ls 5 [(0, .ref (G.1 a0)), (1, .int x1), (2, .int x2), (3, .int x3)]) : W p l e (zR 5) s m args below meth c H locs 0 0 (MQ below (zQi G K r h') args s 0 0 (zA G K)) (F0 m 0 ls []) := by
  obtain ⟨hx, hb, hml, hown, hts, hr, hlocks, hK, hST, hNs⟩ := id X
  unfold m_Model_stepOf at hm
  refine lv_aload_n hx hb d_Model_stepOf_0 rfl (lv_at hl 0 rfl) ?_
  refine lv_iload_n hx hb d_Model_stepOf_1 rfl (lv_at hl 1 rfl) ?_
  obtain ⟨h2, hv, hm⟩ := zbd hm
  obtain ⟨hq, hv⟩ := zcv_at hv
  refine z_cv hI (z_runV (As := [.int x1]) (rest := []) X hI hl.1 (c_Model_takeRun l G K a0 x1 h _ hv) C_Model_210 rfl hq (Nat.le_of_ble_eq_true rfl) ⟨Nat.le_of_ble_eq_true rfl, Nat.le_of_ble_eq_true rfl, Nat.zero_le _, Nat.zero_le _⟩ rfl d_Model_stepOf_2) (fun H locs hI => ?_)
  refine lv_aload_n hx hb d_Model_stepOf_5 rfl (lv_at hl 0 rfl) ?_
  refine lv_iload_n hx hb d_Model_stepOf_6 rfl (lv_at hl 2 rfl) ?_
  refine lv_iload_n hx hb d_Model_stepOf_7 rfl (lv_at hl 3 rfl) ?_
  obtain ⟨v8, h8, hv, hm⟩ := zb2_at hm
  obtain ⟨hq, hv⟩ := zcv_at hv
  refine z_ci hI (z_runV (As := [.int x2, .int x3]) (rest := []) X hI hl.1 (c_Model_doStep l G K a0 x2 x3 h2 _ _ hv) C_Model_213 rfl hq (Nat.le_of_ble_eq_true rfl) ⟨Nat.le_of_ble_eq_true rfl, Nat.le_of_ble_eq_true rfl, Nat.zero_le _, Nat.zero_le _⟩ rfl d_Model_stepOf_8) (fun H locs hI => ?_)
  refine lv_istore (lv' := [(4, .int v8), (0, .ref (G.1 a0)), (1, .int x1), (2, .int x2), (3, .int x3)]) hx hb d_Model_stepOf_11 hl (by decide) rfl (fun ls hl => ?_)
  refine lv_iload hx hb d_Model_stepOf_13 (lv_at hl 0 rfl) ?_
  refine lv_if_ge (tgt := 21) hx hb d_Model_stepOf_15 (by decide) (fun hc15 => ?_) (fun hc15 => ?_)
  · replace hm := zif_t hc15 hm
    refine lv_aload_n hx hb d_Model_stepOf_21 rfl (lv_at hl 1 rfl) ?_
    refine lv_iload_n hx hb d_Model_stepOf_22 rfl (lv_at hl 2 rfl) ?_
    obtain ⟨h23, hv, hm⟩ := zbd hm
    obtain ⟨hq, hv⟩ := zcv_at hv
    refine z_cv hI (z_runV (As := [.int x1]) (rest := []) X hI hl.1 (c_Model_keepRun l G K a0 x1 h8 _ hv) C_Model_207 rfl hq (Nat.le_of_ble_eq_true rfl) ⟨Nat.le_of_ble_eq_true rfl, Nat.le_of_ble_eq_true rfl, Nat.zero_le _, Nat.zero_le _⟩ rfl d_Model_stepOf_23) (fun H locs hI => ?_)
    refine lv_aload_n hx hb d_Model_stepOf_26 rfl (lv_at hl 1 rfl) ?_
    obtain ⟨v27, hv, hm⟩ := zbd hm
    refine z_getR X hI F_Model_31 hv d_Model_stepOf_27 ?_
    refine lv_iload_n hx hb d_Model_stepOf_30 rfl (lv_at hl 2 rfl) ?_
    refine lv_dup2_11 hx hb d_Model_stepOf_31 rfl rfl ?_
    obtain ⟨v32, hv, hm⟩ := zbd hm
    refine z_iald X hI hv d_Model_stepOf_32 ?_
    refine lv_iconst (v := (nI 1)) hx hb d_Model_stepOf_33 (by decide) ?_
    refine lv_iadd hx hb d_Model_stepOf_34 ?_
    obtain ⟨h35, hv, hm⟩ := zbd hm
    refine z_iast X hI hv d_Model_stepOf_35 (fun H locs hI => ?_)
    refine lv_aload_n hx hb d_Model_stepOf_36 rfl (lv_at hl 1 rfl) ?_
    obtain ⟨v37, hv, hm⟩ := zbd hm
    refine z_getR X hI F_Model_40 hv d_Model_stepOf_37 ?_
    refine lv_iload_n hx hb d_Model_stepOf_40 rfl (lv_at hl 2 rfl) ?_
    refine lv_aload_n hx hb d_Model_stepOf_41 rfl (lv_at hl 1 rfl) ?_
    obtain ⟨v42, hv, hm⟩ := zbd hm
    refine z_getR X hI F_Model_22 hv d_Model_stepOf_42 ?_
    refine lv_bipush (v := (nI 87)) hx hb d_Model_stepOf_45 (by decide) ?_
    obtain ⟨v47, hv, hm⟩ := zbd hm
    refine z_iald X hI hv d_Model_stepOf_47 ?_
    refine lv_iconst (v := (nI 1)) hx hb d_Model_stepOf_48 (by decide) ?_
    refine lv_icmp_ne (tgt := 70) hx hb d_Model_stepOf_49 (by decide) (fun hc49 => ?_) (fun hc49 => ?_)
    · replace hm := zif_f hc49 hm
      refine lv_aload_n hx hb d_Model_stepOf_70 rfl (lv_at hl 1 rfl) ?_
      obtain ⟨v71, hv, hm⟩ := zbd hm
      refine z_getR X hI F_Model_40 hv d_Model_stepOf_71 ?_
      refine lv_iload_n hx hb d_Model_stepOf_74 rfl (lv_at hl 2 rfl) ?_
      obtain ⟨v75, hv, hm⟩ := zbd hm
      refine z_iald X hI hv d_Model_stepOf_75 ?_
      exact r_Model_stepOf_76 X a0 x1 v37 x1 v75 h35 hm hI (lv_sub hl [1, 2] rfl)
    · replace hm := zif_t hc49 hm
      refine lv_aload_n hx hb d_Model_stepOf_52 rfl (lv_at hl 1 rfl) ?_
      obtain ⟨v53, hv, hm⟩ := zbd hm
      refine z_getR X hI F_Model_40 hv d_Model_stepOf_53 ?_
      refine lv_iload_n hx hb d_Model_stepOf_56 rfl (lv_at hl 2 rfl) ?_
      obtain ⟨v57, hv, hm⟩ := zbd hm
      refine z_iald X hI hv d_Model_stepOf_57 ?_
      refine lv_if_ge (tgt := 70) hx hb d_Model_stepOf_58 (by decide) (fun hc58 => ?_) (fun hc58 => ?_)
      · replace hm := zif_t hc58 hm
        refine lv_aload_n hx hb d_Model_stepOf_70 rfl (lv_at hl 1 rfl) ?_
        obtain ⟨v71, hv, hm⟩ := zbd hm
        refine z_getR X hI F_Model_40 hv d_Model_stepOf_71 ?_
        refine lv_iload_n hx hb d_Model_stepOf_74 rfl (lv_at hl 2 rfl) ?_
        obtain ⟨v75, hv, hm⟩ := zbd hm
        refine z_iald X hI hv d_Model_stepOf_75 ?_
        exact r_Model_stepOf_76 X a0 x1 v37 x1 v75 h35 hm hI (lv_sub hl [1, 2] rfl)
      · replace hm := zif_f hc58 hm
        refine lv_aload_n hx hb d_Model_stepOf_61 rfl (lv_at hl 1 rfl) ?_
        obtain ⟨v62, hv, hm⟩ := zbd hm
        refine z_getR X hI F_Model_31 hv d_Model_stepOf_62 ?_
        refine lv_iload_n hx hb d_Model_stepOf_65 rfl (lv_at hl 2 rfl) ?_
        obtain ⟨v66, hv, hm⟩ := zbd hm
        refine z_iald X hI hv d_Model_stepOf_66 ?_
        refine lv_goto (tgt := 76) hx hb d_Model_stepOf_67 (by decide) ?_
        exact r_Model_stepOf_76 X a0 x1 v37 x1 v66 h35 hm hI (lv_sub hl [1, 2] rfl)
  · replace hm := zif_f hc15 hm
    refine lv_iload hx hb d_Model_stepOf_18 (lv_at hl 0 rfl) ?_
    obtain ⟨rfl, rfl⟩ := zs2 hm
    exact z_iret X hI d_Model_stepOf_20
set_option maxHeartbeats 4000000 in
set_option maxRecDepth 100000 in
theorem c_Model_stepOf (l : Launch) (G : zG) (K : Nat) (a0 : Nat) (x1 : Int32) (x2 : Int32) (x3 : Int32) (h : zH) (r : Int32) (h' : zH) (hm : m_Model_stepOf a0 x1 x2 x3 h = some (r, h')) : zMi l G K y_Model_stepOf prog_9_method_40_code 5 5 [.ref (G.1 a0), .int x1, .int x2, .int x3] h r h' := zMet (by decide +kernel) (Nat.le_of_ble_eq_true rfl) (fun p e s m below meth c ls X hI hl => r_Model_stepOf_0 X a0 x1 x2 x3 h hm hI hl)
-- walk of AllHomeModel.step
theorem d_Model_step_0 : decode prog_9_method_41_code 0 = .ok (.aload_n 0, 1) := by decide +kernel
theorem d_Model_step_1 : decode prog_9_method_41_code 1 = .ok (.iload_n 1, 1) := by decide +kernel
theorem d_Model_step_2 : decode prog_9_method_41_code 2 = .ok (.invokevirtual 220, 3) := by decide +kernel
theorem d_Model_step_5 : decode prog_9_method_41_code 5 = .ok (.ifCond .eq 25, 3) := by decide +kernel
theorem d_Model_step_8 : decode prog_9_method_41_code 8 = .ok (.iload_n 2, 1) := by decide +kernel
theorem d_Model_step_9 : decode prog_9_method_41_code 9 = .ok (.i2l, 1) := by decide +kernel
theorem d_Model_step_10 : decode prog_9_method_41_code 10 = .ok (.lconst 0, 1) := by decide +kernel
theorem d_Model_step_11 : decode prog_9_method_41_code 11 = .ok (.ldc2_w 85, 3) := by decide +kernel
theorem d_Model_step_14 : decode prog_9_method_41_code 14 = .ok (.invokestatic 87, 3) := by decide +kernel
theorem d_Model_step_17 : decode prog_9_method_41_code 17 = .ok (.ifCond .eq 13, 3) := by decide +kernel
theorem d_Model_step_20 : decode prog_9_method_41_code 20 = .ok (.aload_n 0, 1) := by decide +kernel
theorem d_Model_step_21 : decode prog_9_method_41_code 21 = .ok (.iload_n 1, 1) := by decide +kernel
theorem d_Model_step_22 : decode prog_9_method_41_code 22 = .ok (.iload_n 2, 1) := by decide +kernel
theorem d_Model_step_23 : decode prog_9_method_41_code 23 = .ok (.iload_n 3, 1) := by decide +kernel
theorem d_Model_step_24 : decode prog_9_method_41_code 24 = .ok (.invokevirtual 223, 3) := by decide +kernel
theorem d_Model_step_27 : decode prog_9_method_41_code 27 = .ok (.goto 4, 3) := by decide +kernel
theorem d_Model_step_30 : decode prog_9_method_41_code 30 = .ok (.iconst (-1), 1) := by decide +kernel
theorem d_Model_step_31 : decode prog_9_method_41_code 31 = .ok (.ireturn, 1) := by decide +kernel
set_option maxHeartbeats 4000000 in
set_option maxRecDepth 100000 in
theorem r_Model_step_0 {p : Program} {l : Launch} {e : Env} {s : State} {m : MethodId} {args : Array Value} {below : List Frame} {meth : Method} {c : Code} {G : zG} {K : Nat} (X : zX p s m args meth c "AllHomeModel" prog_9_method_41_code 4 (some .int) G (zA G K)) {r : Int32} {h' : zH} (a0 : Nat) (x1 : Int32) (x2 : Int32) (x3 : Int32) (h : zH) (hm : m_Model_step a0 x1 x2 x3 h = some (r, h')) {H : Heap} {locs : List Loc} {ls : Array Slot} (hI : zI G K s (zA G K) H locs h) (hl : lv_has ls 4 [(0, .ref (G.1 a0)), (1, .int x1), (2, .int x2), (3, .int x3)]) : W p l e (zR 6) s m args below meth c H locs 0 0 (MQ below (zQi G K r h') args s 0 0 (zA G K)) (F0 m 0 ls []) := by
  obtain ⟨hx, hb, hml, hown, hts, hr, hlocks, hK, hST, hNs⟩ := id X
  unfold m_Model_step at hm
  refine lv_aload_n hx hb d_Model_step_0 rfl (lv_at hl 0 rfl) ?_
  refine lv_iload_n hx hb d_Model_step_1 rfl (lv_at hl 1 rfl) ?_
  obtain ⟨v2, hv, hm⟩ := zbd hm
  obtain ⟨hq, hv⟩ := zcv_at hv
  refine z_ci hI (z_runV (As := [.int x1]) (rest := []) X hI hl.1 (c_Model_isRun l G K a0 x1 h _ hv) C_Model_220 rfl hq (Nat.le_of_ble_eq_true rfl) ⟨Nat.le_of_ble_eq_true rfl, Nat.le_of_ble_eq_true rfl, Nat.zero_le _, Nat.zero_le _⟩ rfl d_Model_step_2) (fun H locs hI => ?_)
  refine lv_if_eq (tgt := 30) hx hb d_Model_step_5 (by decide) (fun hc5 => ?_) (fun hc5 => ?_)
  · replace hm := zif_t hc5 hm
    refine lv_iconst (v := (-1 : Int32)) hx hb d_Model_step_30 (by decide) ?_
    obtain ⟨rfl, rfl⟩ := zs2 hm
    exact z_iret X hI d_Model_step_31
  · replace hm := zif_f hc5 hm
    refine lv_iload_n hx hb d_Model_step_8 rfl (lv_at hl 2 rfl) ?_
    refine lv_i2l hx hb d_Model_step_9 rfl ?_
    refine lv_lconst (v := 0) hx hb d_Model_step_10 (by decide) ?_
    refine lv_ldc2 hx hb hown (hts _ kw777) d_Model_step_11 ?_
    obtain ⟨v14, hv, hm⟩ := zbd hm
    refine z_ci hI (z_runS (As := [.long x2.toInt64, .long (0 : Int64), .long (4 : Int64)]) (rest := []) X hI hl.1 (c_Model_within l G K x2.toInt64 (0 : Int64) (4 : Int64) h _ hv) C_Model_87 rfl (Nat.le_of_ble_eq_true rfl) ⟨Nat.le_of_ble_eq_true rfl, Nat.le_of_ble_eq_true rfl, Nat.zero_le _, Nat.zero_le _⟩ rfl d_Model_step_14) (fun H locs hI => ?_)
    refine lv_if_eq (tgt := 30) hx hb d_Model_step_17 (by decide) (fun hc17 => ?_) (fun hc17 => ?_)
    · replace hm := zif_t hc17 hm
      refine lv_iconst (v := (-1 : Int32)) hx hb d_Model_step_30 (by decide) ?_
      obtain ⟨rfl, rfl⟩ := zs2 hm
      exact z_iret X hI d_Model_step_31
    · replace hm := zif_f hc17 hm
      refine lv_aload_n hx hb d_Model_step_20 rfl (lv_at hl 0 rfl) ?_
      refine lv_iload_n hx hb d_Model_step_21 rfl (lv_at hl 1 rfl) ?_
      refine lv_iload_n hx hb d_Model_step_22 rfl (lv_at hl 2 rfl) ?_
      refine lv_iload_n hx hb d_Model_step_23 rfl (lv_at hl 3 rfl) ?_
      obtain ⟨v24, h24, hv, hm⟩ := zb2_at hm
      obtain ⟨hq, hv⟩ := zcv_at hv
      refine z_ci hI (z_runV (As := [.int x1, .int x2, .int x3]) (rest := []) X hI hl.1 (c_Model_stepOf l G K a0 x1 x2 x3 h _ _ hv) C_Model_223 rfl hq (Nat.le_of_ble_eq_true rfl) ⟨Nat.le_of_ble_eq_true rfl, Nat.le_of_ble_eq_true rfl, Nat.zero_le _, Nat.zero_le _⟩ rfl d_Model_step_24) (fun H locs hI => ?_)
      refine lv_goto (tgt := 31) hx hb d_Model_step_27 (by decide) ?_
      obtain ⟨rfl, rfl⟩ := zs2 hm
      exact z_iret X hI d_Model_step_31
set_option maxHeartbeats 4000000 in
set_option maxRecDepth 100000 in
theorem c_Model_step (l : Launch) (G : zG) (K : Nat) (a0 : Nat) (x1 : Int32) (x2 : Int32) (x3 : Int32) (h : zH) (r : Int32) (h' : zH) (hm : m_Model_step a0 x1 x2 x3 h = some (r, h')) : zMi l G K y_Model_step prog_9_method_41_code 4 6 [.ref (G.1 a0), .int x1, .int x2, .int x3] h r h' := zMet (by decide +kernel) (Nat.le_of_ble_eq_true rfl) (fun p e s m below meth c ls X hI hl => r_Model_step_0 X a0 x1 x2 x3 h hm hI hl)
-- walk of AllHomeModel.isShelf
theorem d_Model_isShelf_0 : decode prog_9_method_68_code 0 = .ok (.iload_n 0, 1) := by decide +kernel
theorem d_Model_isShelf_1 : decode prog_9_method_68_code 1 = .ok (.i2l, 1) := by decide +kernel
theorem d_Model_isShelf_2 : decode prog_9_method_68_code 2 = .ok (.lconst 0, 1) := by decide +kernel
theorem d_Model_isShelf_3 : decode prog_9_method_68_code 3 = .ok (.ldc2_w 287, 3) := by decide +kernel
theorem d_Model_isShelf_6 : decode prog_9_method_68_code 6 = .ok (.invokestatic 87, 3) := by decide +kernel
theorem d_Model_isShelf_9 : decode prog_9_method_68_code 9 = .ok (.ireturn, 1) := by decide +kernel
set_option maxHeartbeats 4000000 in
set_option maxRecDepth 100000 in
theorem r_Model_isShelf_0 {p : Program} {l : Launch} {e : Env} {s : State} {m : MethodId} {args : Array Value} {below : List Frame} {meth : Method} {c : Code} {G : zG} {K : Nat} (X : zX p s m args meth c "AllHomeModel" prog_9_method_68_code 1 (some .boolean) G (zA G K)) {r : Int32} (x0 : Int32) (h : zH) (hm : m_Model_isShelf x0 h = some r) {H : Heap} {locs : List Loc} {ls : Array Slot} (hI : zI G K s (zA G K) H locs h) (hl : lv_has ls 1 [(0, .int x0)]) : W p l e (zR 1) s m args below meth c H locs 0 0 (MQ below (zQi G K r h) args s 0 0 (zA G K)) (F0 m 0 ls []) := by
  obtain ⟨hx, hb, hml, hown, hts, hr, hlocks, hK, hST, hNs⟩ := id X
  unfold m_Model_isShelf at hm
  refine lv_iload_n hx hb d_Model_isShelf_0 rfl (lv_at hl 0 rfl) ?_
  refine lv_i2l hx hb d_Model_isShelf_1 rfl ?_
  refine lv_lconst (v := 0) hx hb d_Model_isShelf_2 (by decide) ?_
  refine lv_ldc2 hx hb hown (hts _ kw943) d_Model_isShelf_3 ?_
  obtain ⟨v6, hv, hm⟩ := zbd hm
  refine z_ci hI (z_runS (As := [.long x0.toInt64, .long (0 : Int64), .long (5 : Int64)]) (rest := []) X hI hl.1 (c_Model_within l G K x0.toInt64 (0 : Int64) (5 : Int64) h _ hv) C_Model_87 rfl (Nat.le_of_ble_eq_true rfl) ⟨Nat.le_of_ble_eq_true rfl, Nat.le_of_ble_eq_true rfl, Nat.zero_le _, Nat.zero_le _⟩ rfl d_Model_isShelf_6) (fun H locs hI => ?_)
  obtain ⟨hz, hm⟩ := zbl_at hm
  obtain rfl := zs1 hm
  exact z_zret X hI hz d_Model_isShelf_9
set_option maxHeartbeats 4000000 in
set_option maxRecDepth 100000 in
theorem c_Model_isShelf (l : Launch) (G : zG) (K : Nat) (x0 : Int32) (h : zH) (r : Int32) (hm : m_Model_isShelf x0 h = some r) : zMz l G K y_Model_isShelf prog_9_method_68_code 1 1 [.int x0] h r h := zMet (by decide +kernel) (Nat.le_of_ble_eq_true rfl) (fun p e s m below meth c ls X hI hl => r_Model_isShelf_0 X x0 h hm hI hl)
-- walk of AllHomeModel.steps
theorem d_Model_steps_0 : decode prog_9_method_42_code 0 = .ok (.aload_n 0, 1) := by decide +kernel
theorem d_Model_steps_1 : decode prog_9_method_42_code 1 = .ok (.iload_n 1, 1) := by decide +kernel
theorem d_Model_steps_2 : decode prog_9_method_42_code 2 = .ok (.invokevirtual 220, 3) := by decide +kernel
theorem d_Model_steps_5 : decode prog_9_method_42_code 5 = .ok (.ifCond .eq 23, 3) := by decide +kernel
theorem d_Model_steps_8 : decode prog_9_method_42_code 8 = .ok (.iload_n 2, 1) := by decide +kernel
theorem d_Model_steps_9 : decode prog_9_method_42_code 9 = .ok (.invokestatic 226, 3) := by decide +kernel
theorem d_Model_steps_12 : decode prog_9_method_42_code 12 = .ok (.ifCond .eq 16, 3) := by decide +kernel
theorem d_Model_steps_15 : decode prog_9_method_42_code 15 = .ok (.iload 4, 2) := by decide +kernel
theorem d_Model_steps_17 : decode prog_9_method_42_code 17 = .ok (.i2l, 1) := by decide +kernel
theorem d_Model_steps_18 : decode prog_9_method_42_code 18 = .ok (.lconst 1, 1) := by decide +kernel
theorem d_Model_steps_19 : decode prog_9_method_42_code 19 = .ok (.ldc2_w 229, 3) := by decide +kernel
theorem d_Model_steps_22 : decode prog_9_method_42_code 22 = .ok (.invokestatic 87, 3) := by decide +kernel
theorem d_Model_steps_25 : decode prog_9_method_42_code 25 = .ok (.ifCond .ne 5, 3) := by decide +kernel
theorem d_Model_steps_28 : decode prog_9_method_42_code 28 = .ok (.iconst (-1), 1) := by decide +kernel
theorem d_Model_steps_29 : decode prog_9_method_42_code 29 = .ok (.ireturn, 1) := by decide +kernel
theorem d_Model_steps_30 : decode prog_9_method_42_code 30 = .ok (.aload_n 0, 1) := by decide +kernel
theorem d_Model_steps_31 : decode prog_9_method_42_code 31 = .ok (.getfield 65, 3) := by decide +kernel
theorem d_Model_steps_34 : decode prog_9_method_42_code 34 = .ok (.iload_n 2, 1) := by decide +kernel
theorem d_Model_steps_35 : decode prog_9_method_42_code 35 = .ok (.iaload, 1) := by decide +kernel
theorem d_Model_steps_36 : decode prog_9_method_42_code 36 = .ok (.iconst (-1), 1) := by decide +kernel
theorem d_Model_steps_37 : decode prog_9_method_42_code 37 = .ok (.if_icmp .eq 17, 3) := by decide +kernel
theorem d_Model_steps_40 : decode prog_9_method_42_code 40 = .ok (.aload_n 0, 1) := by decide +kernel
theorem d_Model_steps_41 : decode prog_9_method_42_code 41 = .ok (.getfield 65, 3) := by decide +kernel
theorem d_Model_steps_44 : decode prog_9_method_42_code 44 = .ok (.iload_n 2, 1) := by decide +kernel
theorem d_Model_steps_45 : decode prog_9_method_42_code 45 = .ok (.iaload, 1) := by decide +kernel
theorem d_Model_steps_46 : decode prog_9_method_42_code 46 = .ok (.bipush 11, 2) := by decide +kernel
theorem d_Model_steps_48 : decode prog_9_method_42_code 48 = .ok (.if_icmp .eq 6, 3) := by decide +kernel
theorem d_Model_steps_51 : decode prog_9_method_42_code 51 = .ok (.bipush (-12), 2) := by decide +kernel
theorem d_Model_steps_53 : decode prog_9_method_42_code 53 = .ok (.ireturn, 1) := by decide +kernel
theorem d_Model_steps_54 : decode prog_9_method_42_code 54 = .ok (.iconst 0, 1) := by decide +kernel
theorem d_Model_steps_55 : decode prog_9_method_42_code 55 = .ok (.istore 5, 2) := by decide +kernel
theorem d_Model_steps_57 : decode prog_9_method_42_code 57 = .ok (.aload_n 0, 1) := by decide +kernel
theorem d_Model_steps_58 : decode prog_9_method_42_code 58 = .ok (.getfield 65, 3) := by decide +kernel
theorem d_Model_steps_61 : decode prog_9_method_42_code 61 = .ok (.iload_n 2, 1) := by decide +kernel
theorem d_Model_steps_62 : decode prog_9_method_42_code 62 = .ok (.iaload, 1) := by decide +kernel
theorem d_Model_steps_63 : decode prog_9_method_42_code 63 = .ok (.iconst (-1), 1) := by decide +kernel
theorem d_Model_steps_64 : decode prog_9_method_42_code 64 = .ok (.if_icmp .eq 7, 3) := by decide +kernel
theorem d_Model_steps_67 : decode prog_9_method_42_code 67 = .ok (.iconst 1, 1) := by decide +kernel
theorem d_Model_steps_68 : decode prog_9_method_42_code 68 = .ok (.goto 4, 3) := by decide +kernel
theorem d_Model_steps_71 : decode prog_9_method_42_code 71 = .ok (.iconst 0, 1) := by decide +kernel
theorem d_Model_steps_72 : decode prog_9_method_42_code 72 = .ok (.istore 6, 2) := by decide +kernel
theorem d_Model_steps_74 : decode prog_9_method_42_code 74 = .ok (.iload 6, 2) := by decide +kernel
theorem d_Model_steps_76 : decode prog_9_method_42_code 76 = .ok (.ifCond .eq 123, 3) := by decide +kernel
theorem d_Model_steps_79 : decode prog_9_method_42_code 79 = .ok (.iload 5, 2) := by decide +kernel
theorem d_Model_steps_81 : decode prog_9_method_42_code 81 = .ok (.iload 4, 2) := by decide +kernel
theorem d_Model_steps_83 : decode prog_9_method_42_code 83 = .ok (.if_icmp .ge 116, 3) := by decide +kernel
theorem d_Model_steps_86 : decode prog_9_method_42_code 86 = .ok (.iload_n 3, 1) := by decide +kernel
theorem d_Model_steps_87 : decode prog_9_method_42_code 87 = .ok (.i2l, 1) := by decide +kernel
theorem d_Model_steps_88 : decode prog_9_method_42_code 88 = .ok (.iload 5, 2) := by decide +kernel
theorem d_Model_steps_90 : decode prog_9_method_42_code 90 = .ok (.i2l, 1) := by decide +kernel
theorem d_Model_steps_91 : decode prog_9_method_42_code 91 = .ok (.ladd, 1) := by decide +kernel
theorem d_Model_steps_92 : decode prog_9_method_42_code 92 = .ok (.lstore 7, 2) := by decide +kernel
theorem d_Model_steps_94 : decode prog_9_method_42_code 94 = .ok (.lload 7, 2) := by decide +kernel
theorem d_Model_steps_96 : decode prog_9_method_42_code 96 = .ok (.lconst 0, 1) := by decide +kernel
theorem d_Model_steps_97 : decode prog_9_method_42_code 97 = .ok (.lcmp, 1) := by decide +kernel
theorem d_Model_steps_98 : decode prog_9_method_42_code 98 = .ok (.ifCond .lt 20, 3) := by decide +kernel
theorem d_Model_steps_101 : decode prog_9_method_42_code 101 = .ok (.lload 7, 2) := by decide +kernel
theorem d_Model_steps_103 : decode prog_9_method_42_code 103 = .ok (.aload_n 0, 1) := by decide +kernel
theorem d_Model_steps_104 : decode prog_9_method_42_code 104 = .ok (.getfield 68, 3) := by decide +kernel
theorem d_Model_steps_107 : decode prog_9_method_42_code 107 = .ok (.iload_n 2, 1) := by decide +kernel
theorem d_Model_steps_108 : decode prog_9_method_42_code 108 = .ok (.iaload, 1) := by decide +kernel
theorem d_Model_steps_109 : decode prog_9_method_42_code 109 = .ok (.i2l, 1) := by decide +kernel
theorem d_Model_steps_110 : decode prog_9_method_42_code 110 = .ok (.lcmp, 1) := by decide +kernel
theorem d_Model_steps_111 : decode prog_9_method_42_code 111 = .ok (.ifCond .ge 7, 3) := by decide +kernel
theorem d_Model_steps_114 : decode prog_9_method_42_code 114 = .ok (.iconst 1, 1) := by decide +kernel
theorem d_Model_steps_115 : decode prog_9_method_42_code 115 = .ok (.goto 4, 3) := by decide +kernel
theorem d_Model_steps_118 : decode prog_9_method_42_code 118 = .ok (.iconst 0, 1) := by decide +kernel
theorem d_Model_steps_119 : decode prog_9_method_42_code 119 = .ok (.istore 6, 2) := by decide +kernel
theorem d_Model_steps_121 : decode prog_9_method_42_code 121 = .ok (.iload 6, 2) := by decide +kernel
theorem d_Model_steps_123 : decode prog_9_method_42_code 123 = .ok (.ifCond .eq 73, 3) := by decide +kernel
theorem d_Model_steps_126 : decode prog_9_method_42_code 126 = .ok (.aload_n 0, 1) := by decide +kernel
theorem d_Model_steps_127 : decode prog_9_method_42_code 127 = .ok (.getfield 71, 3) := by decide +kernel
theorem d_Model_steps_130 : decode prog_9_method_42_code 130 = .ok (.bipush 60, 2) := by decide +kernel
theorem d_Model_steps_132 : decode prog_9_method_42_code 132 = .ok (.iload_n 2, 1) := by decide +kernel
theorem d_Model_steps_133 : decode prog_9_method_42_code 133 = .ok (.imul, 1) := by decide +kernel
theorem d_Model_steps_134 : decode prog_9_method_42_code 134 = .ok (.lload 7, 2) := by decide +kernel
theorem d_Model_steps_136 : decode prog_9_method_42_code 136 = .ok (.l2i, 1) := by decide +kernel
theorem d_Model_steps_137 : decode prog_9_method_42_code 137 = .ok (.iadd, 1) := by decide +kernel
theorem d_Model_steps_138 : decode prog_9_method_42_code 138 = .ok (.laload, 1) := by decide +kernel
theorem d_Model_steps_139 : decode prog_9_method_42_code 139 = .ok (.l2i, 1) := by decide +kernel
theorem d_Model_steps_140 : decode prog_9_method_42_code 140 = .ok (.istore 9, 2) := by decide +kernel
theorem d_Model_steps_142 : decode prog_9_method_42_code 142 = .ok (.iload 9, 2) := by decide +kernel
theorem d_Model_steps_144 : decode prog_9_method_42_code 144 = .ok (.ifCond .lt 34, 3) := by decide +kernel
theorem d_Model_steps_147 : decode prog_9_method_42_code 147 = .ok (.iload 9, 2) := by decide +kernel
theorem d_Model_steps_149 : decode prog_9_method_42_code 149 = .ok (.bipush 100, 2) := by decide +kernel
theorem d_Model_steps_151 : decode prog_9_method_42_code 151 = .ok (.idiv, 1) := by decide +kernel
theorem d_Model_steps_152 : decode prog_9_method_42_code 152 = .ok (.iconst 4, 1) := by decide +kernel
theorem d_Model_steps_153 : decode prog_9_method_42_code 153 = .ok (.if_icmp .gt 25, 3) := by decide +kernel
theorem d_Model_steps_156 : decode prog_9_method_42_code 156 = .ok (.aload_n 0, 1) := by decide +kernel
theorem d_Model_steps_157 : decode prog_9_method_42_code 157 = .ok (.iload_n 1, 1) := by decide +kernel
theorem d_Model_steps_158 : decode prog_9_method_42_code 158 = .ok (.iload 9, 2) := by decide +kernel
theorem d_Model_steps_160 : decode prog_9_method_42_code 160 = .ok (.bipush 100, 2) := by decide +kernel
theorem d_Model_steps_162 : decode prog_9_method_42_code 162 = .ok (.idiv, 1) := by decide +kernel
theorem d_Model_steps_163 : decode prog_9_method_42_code 163 = .ok (.iload 9, 2) := by decide +kernel
theorem d_Model_steps_165 : decode prog_9_method_42_code 165 = .ok (.bipush 100, 2) := by decide +kernel
theorem d_Model_steps_167 : decode prog_9_method_42_code 167 = .ok (.irem, 1) := by decide +kernel
theorem d_Model_steps_168 : decode prog_9_method_42_code 168 = .ok (.invokevirtual 223, 3) := by decide +kernel
theorem d_Model_steps_171 : decode prog_9_method_42_code 171 = .ok (.ifCond .le 7, 3) := by decide +kernel
theorem d_Model_steps_174 : decode prog_9_method_42_code 174 = .ok (.iconst 1, 1) := by decide +kernel
theorem d_Model_steps_175 : decode prog_9_method_42_code 175 = .ok (.goto 4, 3) := by decide +kernel
theorem d_Model_steps_178 : decode prog_9_method_42_code 178 = .ok (.iconst 0, 1) := by decide +kernel
theorem d_Model_steps_179 : decode prog_9_method_42_code 179 = .ok (.istore 6, 2) := by decide +kernel
theorem d_Model_steps_181 : decode prog_9_method_42_code 181 = .ok (.iload 5, 2) := by decide +kernel
theorem d_Model_steps_183 : decode prog_9_method_42_code 183 = .ok (.iload 6, 2) := by decide +kernel
theorem d_Model_steps_185 : decode prog_9_method_42_code 185 = .ok (.ifCond .eq 7, 3) := by decide +kernel
theorem d_Model_steps_188 : decode prog_9_method_42_code 188 = .ok (.iconst 1, 1) := by decide +kernel
theorem d_Model_steps_189 : decode prog_9_method_42_code 189 = .ok (.goto 4, 3) := by decide +kernel
theorem d_Model_steps_192 : decode prog_9_method_42_code 192 = .ok (.iconst 0, 1) := by decide +kernel
theorem d_Model_steps_193 : decode prog_9_method_42_code 193 = .ok (.iadd, 1) := by decide +kernel
theorem d_Model_steps_194 : decode prog_9_method_42_code 194 = .ok (.istore 5, 2) := by decide +kernel
theorem d_Model_steps_196 : decode prog_9_method_42_code 196 = .ok (.goto (-122), 3) := by decide +kernel
theorem d_Model_steps_199 : decode prog_9_method_42_code 199 = .ok (.iload 5, 2) := by decide +kernel
theorem d_Model_steps_201 : decode prog_9_method_42_code 201 = .ok (.ireturn, 1) := by decide +kernel
set_option maxHeartbeats 4000000 in
set_option maxRecDepth 100000 in
theorem r_Model_steps_179 {p : Program} {l : Launch} {e : Env} {s : State} {m : MethodId} {args : Array Value} {below : List Frame} {meth : Method} {c : Code} {G : zG} {K : Nat} (X : zX p s m args meth c "AllHomeModel" prog_9_method_42_code 10 (some .int) G (zA G K)) {r : Int32} {h' : zH} (a0 : Nat) (x1 : Int32) (x2 : Int32) (x3 : Int32) (x4 : Int32) (x5 : Int32) (y0 : Int32) (h : zH) (k74 : (Int32 × Int32 × zH) → Option (Int32 × zH)) (hk74 : ∀ (w : Int32 × Int32 × zH), k74 w = some (r, h') → ∀ (H : Heap) (locs : List Loc) (ls : Array Slot), zI G K s (zA G K) H locs w.2.2 → lv_has ls 10 [(0, .ref (G.1 a0)), (1, .int x1), (2, .int x2), (3, .int x3), (4, .int x4), (5, .int w.1), (6, .int w.2.1)] → W p l e (zR 6) s m args below meth c H locs 0 0 (MQ below (zQi G K r h') args s 0 0 (zA G K)) (F0 m 74 ls [])) (hm : g_Model_steps_179 a0 x1 x2 x3 x4 x5 y0 h k74 = some (r, h')) {H : Heap} {locs : List Loc} {ls : Array Slot} (hI : zI G K s (zA G K) H locs h) (hl : lv_has ls 10 [(0, .ref (G.1 a0)), (1, .int x1), (2, .int x2), (3, .int x3), (4, .int x4), (5, .int x5)]) : W p l e (zR 6) s m args below meth c H locs 0 0 (MQ below (zQi G K r h') args s 0 0 (zA G K)) (F0 m 179 ls [.int y0]) := by
  obtain ⟨hx, hb, hml, hown, hts, hr, hlocks, hK, hST, hNs⟩ := id X
  unfold g_Model_steps_179 at hm
  refine lv_istore (lv' := [(6, .int y0), (0, .ref (G.1 a0)), (1, .int x1), (2, .int x2), (3, .int x3), (4, .int x4), (5, .int x5)]) hx hb d_Model_steps_179 hl (by decide) rfl (fun ls hl => ?_)
  refine lv_iload hx hb d_Model_steps_181 (lv_at hl 6 rfl) ?_
  refine lv_iload hx hb d_Model_steps_183 (lv_at hl 0 rfl) ?_
  refine lv_if_eq (tgt := 192) hx hb d_Model_steps_185 (by decide) (fun hc185 => ?_) (fun hc185 => ?_)
  · replace hm := zif_t hc185 hm
    refine lv_iconst (v := (nI 0)) hx hb d_Model_steps_192 (by decide) ?_
    refine lv_iadd hx hb d_Model_steps_193 ?_
    refine lv_istore (lv' := [(5, .int (x5 + (nI 0))), (6, .int y0), (0, .ref (G.1 a0)), (1, .int x1), (2, .int x2), (3, .int x3), (4, .int x4)]) hx hb d_Model_steps_194 hl (by decide) rfl (fun ls hl => ?_)
    refine lv_goto (tgt := 74) hx hb d_Model_steps_196 (by decide) ?_
    obtain ⟨g0, e0⟩ : ∃ z, z = (x5 + (nI 0)) := ⟨_, rfl⟩
    rw [← e0] at hm hl
    exact hk74 (g0, y0, h) hm _ _ _ hI (lv_sub hl [2, 3, 4, 5, 6, 0, 1] rfl)
  · replace hm := zif_f hc185 hm
    refine lv_iconst (v := (nI 1)) hx hb d_Model_steps_188 (by decide) ?_
    refine lv_goto (tgt := 193) hx hb d_Model_steps_189 (by decide) ?_
    refine lv_iadd hx hb d_Model_steps_193 ?_
    refine lv_istore (lv' := [(5, .int (x5 + (nI 1))), (6, .int y0), (0, .ref (G.1 a0)), (1, .int x1), (2, .int x2), (3, .int x3), (4, .int x4)]) hx hb d_Model_steps_194 hl (by decide) rfl (fun ls hl => ?_)
    refine lv_goto (tgt := 74) hx hb d_Model_steps_196 (by decide) ?_
    obtain ⟨g0, e0⟩ : ∃ z, z = (x5 + (nI 1)) := ⟨_, rfl⟩
    rw [← e0] at hm hl
    exact hk74 (g0, y0, h) hm _ _ _ hI (lv_sub hl [2, 3, 4, 5, 6, 0, 1] rfl)
set_option maxHeartbeats 4000000 in
set_option maxRecDepth 100000 in
theorem r_Model_steps_119 {p : Program} {l : Launch} {e : Env} {s : State} {m : MethodId} {args : Array Value} {below : List Frame} {meth : Method} {c : Code} {G : zG} {K : Nat} (X : zX p s m args meth c "AllHomeModel" prog_9_method_42_code 10 (some .int) G (zA G K)) {r : Int32} {h' : zH} (a0 : Nat) (x1 : Int32) (x2 : Int32) (x3 : Int32) (x4 : Int32) (x5 : Int32) (x7 : Int64) (y0 : Int32) (h : zH) (k74 : (Int32 × Int32 × zH) → Option (Int32 × zH)) (hk74 : ∀ (w : Int32 × Int32 × zH), k74 w = some (r, h') → ∀ (H : Heap) (locs : List Loc) (ls : Array Slot), zI G K s (zA G K) H locs w.2.2 → lv_has ls 10 [(0, .ref (G.1 a0)), (1, .int x1), (2, .int x2), (3, .int x3), (4, .int x4), (5, .int w.1), (6, .int w.2.1)] → W p l e (zR 6) s m args below meth c H locs 0 0 (MQ below (zQi G K r h') args s 0 0 (zA G K)) (F0 m 74 ls [])) (hm : g_Model_steps_119 a0 x1 x2 x3 x4 x5 x7 y0 h k74 = some (r, h')) {H : Heap} {locs : List Loc} {ls : Array Slot} (hI : zI G K s (zA G K) H locs h) (hl : lv_has ls 10 [(0, .ref (G.1 a0)), (1, .int x1), (2, .int x2), (3, .int x3), (4, .int x4), (5, .int x5), (7, .long x7)]) : W p l e (zR 6) s m args below meth c H locs 0 0 (MQ below (zQi G K r h') args s 0 0 (zA G K)) (F0 m 119 ls [.int y0]) := by
  obtain ⟨hx, hb, hml, hown, hts, hr, hlocks, hK, hST, hNs⟩ := id X
  unfold g_Model_steps_119 at hm
  refine lv_istore (lv' := [(6, .int y0), (0, .ref (G.1 a0)), (1, .int x1), (2, .int x2), (3, .int x3), (4, .int x4), (5, .int x5), (7, .long x7)]) hx hb d_Model_steps_119 hl (by decide) rfl (fun ls hl => ?_)
  refine lv_iload hx hb d_Model_steps_121 (lv_at hl 0 rfl) ?_
  refine lv_if_eq (tgt := 196) hx hb d_Model_steps_123 (by decide) (fun hc123 => ?_) (fun hc123 => ?_)
  · replace hm := zif_t hc123 hm
    refine lv_goto (tgt := 74) hx hb d_Model_steps_196 (by decide) ?_
    exact hk74 (x5, y0, h) hm _ _ _ hI (lv_sub hl [1, 2, 3, 4, 5, 6, 0] rfl)
  · replace hm := zif_f hc123 hm
    refine lv_aload_n hx hb d_Model_steps_126 rfl (lv_at hl 1 rfl) ?_
    obtain ⟨v127, hv, hm⟩ := zbd hm
    refine z_getR X hI F_Model_71 hv d_Model_steps_127 ?_
    refine lv_bipush (v := (nI 60)) hx hb d_Model_steps_130 (by decide) ?_
    refine lv_iload_n hx hb d_Model_steps_132 rfl (lv_at hl 3 rfl) ?_
    refine lv_imul hx hb d_Model_steps_133 ?_
    refine lv_lload hx hb d_Model_steps_134 (lv_at hl 7 rfl) ?_
    refine lv_l2i hx hb d_Model_steps_136 rfl ?_
    refine lv_iadd hx hb d_Model_steps_137 ?_
    obtain ⟨v138, hv, hm⟩ := zbd hm
    refine z_lald X hI hv d_Model_steps_138 ?_
    refine lv_l2i hx hb d_Model_steps_139 rfl ?_
    refine lv_istore (lv' := [(9, .int v138.toInt32), (6, .int y0), (0, .ref (G.1 a0)), (1, .int x1), (2, .int x2), (3, .int x3), (4, .int x4), (5, .int x5), (7, .long x7)]) hx hb d_Model_steps_140 hl (by decide) rfl (fun ls hl => ?_)
    refine lv_iload hx hb d_Model_steps_142 (lv_at hl 0 rfl) ?_
    refine lv_if_lt (tgt := 178) hx hb d_Model_steps_144 (by decide) (fun hc144 => ?_) (fun hc144 => ?_)
    · replace hm := zif_t hc144 hm
      refine lv_iconst (v := (nI 0)) hx hb d_Model_steps_178 (by decide) ?_
      exact r_Model_steps_179 X a0 x1 x2 x3 x4 x5 (nI 0) h k74 hk74 hm hI (lv_sub hl [2, 3, 4, 5, 6, 7] rfl)
    · replace hm := zif_f hc144 hm
      refine lv_iload hx hb d_Model_steps_147 (lv_at hl 0 rfl) ?_
      refine lv_bipush (v := (nI 100)) hx hb d_Model_steps_149 (by decide) ?_
      refine lv_idiv hx hb d_Model_steps_151 (by decide) ?_
      refine lv_iconst (v := (nI 4)) hx hb d_Model_steps_152 (by decide) ?_
      refine lv_icmp_gt (tgt := 178) hx hb d_Model_steps_153 (by decide) (fun hc153 => ?_) (fun hc153 => ?_)
      · replace hm := zif_t hc153 hm
        refine lv_iconst (v := (nI 0)) hx hb d_Model_steps_178 (by decide) ?_
        exact r_Model_steps_179 X a0 x1 x2 x3 x4 x5 (nI 0) h k74 hk74 hm hI (lv_sub hl [2, 3, 4, 5, 6, 7] rfl)
      · replace hm := zif_f hc153 hm
        refine lv_aload_n hx hb d_Model_steps_156 rfl (lv_at hl 2 rfl) ?_
        refine lv_iload_n hx hb d_Model_steps_157 rfl (lv_at hl 3 rfl) ?_
        refine lv_iload hx hb d_Model_steps_158 (lv_at hl 0 rfl) ?_
        refine lv_bipush (v := (nI 100)) hx hb d_Model_steps_160 (by decide) ?_
        refine lv_idiv hx hb d_Model_steps_162 (by decide) ?_
        refine lv_iload hx hb d_Model_steps_163 (lv_at hl 0 rfl) ?_
        refine lv_bipush (v := (nI 100)) hx hb d_Model_steps_165 (by decide) ?_
        refine lv_irem hx hb d_Model_steps_167 (by decide) ?_
        obtain ⟨v168, h168, hv, hm⟩ := zb2_at hm
        obtain ⟨hq, hv⟩ := zcv_at hv
        refine z_ci hI (z_runV (As := [.int x1, .int (v138.toInt32 / (nI 100)), .int (v138.toInt32 - v138.toInt32 / (nI 100) * (nI 100))]) (rest := []) X hI hl.1 (c_Model_stepOf l G K a0 x1 (v138.toInt32 / (nI 100)) (v138.toInt32 - v138.toInt32 / (nI 100) * (nI 100)) h _ _ hv) C_Model_223 rfl hq (Nat.le_of_ble_eq_true rfl) ⟨Nat.le_of_ble_eq_true rfl, Nat.le_of_ble_eq_true rfl, Nat.zero_le _, Nat.zero_le _⟩ rfl d_Model_steps_168) (fun H locs hI => ?_)
        refine lv_if_le (tgt := 178) hx hb d_Model_steps_171 (by decide) (fun hc171 => ?_) (fun hc171 => ?_)
        · replace hm := zif_t hc171 hm
          refine lv_iconst (v := (nI 0)) hx hb d_Model_steps_178 (by decide) ?_
          exact r_Model_steps_179 X a0 x1 x2 x3 x4 x5 (nI 0) h168 k74 hk74 hm hI (lv_sub hl [2, 3, 4, 5, 6, 7] rfl)
        · replace hm := zif_f hc171 hm
          refine lv_iconst (v := (nI 1)) hx hb d_Model_steps_174 (by decide) ?_
          refine lv_goto (tgt := 179) hx hb d_Model_steps_175 (by decide) ?_
          exact r_Model_steps_179 X a0 x1 x2 x3 x4 x5 (nI 1) h168 k74 hk74 hm hI (lv_sub hl [2, 3, 4, 5, 6, 7] rfl)
set_option maxHeartbeats 4000000 in
set_option maxRecDepth 100000 in
theorem r_Model_steps_74_b {p : Program} {l : Launch} {e : Env} {s : State} {m : MethodId} {args : Array Value} {below : List Frame} {meth : Method} {c : Code} {G : zG} {K : Nat} (X : zX p s m args meth c "AllHomeModel" prog_9_method_42_code 10 (some .int) G (zA G K)) {r : Int32} {h' : zH} (a0 : Nat) (x1 : Int32) (x2 : Int32) (x3 : Int32) (x4 : Int32) (k74 : (Int32 × Int32 × zH) → Option (Int32 × zH)) (hk74 : ∀ (w : Int32 × Int32 × zH), k74 w = some (r, h') → ∀ (H : Heap) (locs : List Loc) (ls : Array Slot), zI G K s (zA G K) H locs w.2.2 → lv_has ls 10 [(0, .ref (G.1 a0)), (1, .int x1), (2, .int x2), (3, .int x3), (4, .int x4), (5, .int w.1), (6, .int w.2.1)] → W p l e (zR 6) s m args below meth c H locs 0 0 (MQ below (zQi G K r h') args s 0 0 (zA G K)) (F0 m 74 ls [])) (u : Int32 × Int32 × zH) (hm : g_Model_steps_74 a0 x1 x2 x3 x4 k74 u = some (r, h')) {H : Heap} {locs : List Loc} {ls : Array Slot} (hI : zI G K s (zA G K) H locs u.2.2) (hl : lv_has ls 10 [(0, .ref (G.1 a0)), (1, .int x1), (2, .int x2), (3, .int x3), (4, .int x4), (5, .int u.1), (6, .int u.2.1)]) : W p l e (zR 6) s m args below meth c H locs 0 0 (MQ below (zQi G K r h') args s 0 0 (zA G K)) (F0 m 74 ls []) := by
  obtain ⟨hx, hb, hml, hown, hts, hr, hlocks, hK, hST, hNs⟩ := id X
  unfold g_Model_steps_74 at hm
  refine lv_iload hx hb d_Model_steps_74 (lv_at hl 6 rfl) ?_
  refine lv_if_eq (tgt := 199) hx hb d_Model_steps_76 (by decide) (fun hc76 => ?_) (fun hc76 => ?_)
  · replace hm := zif_t hc76 hm
    refine lv_iload hx hb d_Model_steps_199 (lv_at hl 5 rfl) ?_
    obtain ⟨rfl, rfl⟩ := zs2 hm
    exact z_iret X hI d_Model_steps_201
  · replace hm := zif_f hc76 hm
    refine lv_iload hx hb d_Model_steps_79 (lv_at hl 5 rfl) ?_
    refine lv_iload hx hb d_Model_steps_81 (lv_at hl 4 rfl) ?_
    refine lv_icmp_ge (tgt := 199) hx hb d_Model_steps_83 (by decide) (fun hc83 => ?_) (fun hc83 => ?_)
    · replace hm := zif_t hc83 hm
      refine lv_iload hx hb d_Model_steps_199 (lv_at hl 5 rfl) ?_
      obtain ⟨rfl, rfl⟩ := zs2 hm
      exact z_iret X hI d_Model_steps_201
    · replace hm := zif_f hc83 hm
      refine lv_iload_n hx hb d_Model_steps_86 rfl (lv_at hl 3 rfl) ?_
      refine lv_i2l hx hb d_Model_steps_87 rfl ?_
      refine lv_iload hx hb d_Model_steps_88 (lv_at hl 5 rfl) ?_
      refine lv_i2l hx hb d_Model_steps_90 rfl ?_
      refine lv_ladd hx hb d_Model_steps_91 ?_
      refine lv_lstore (lv' := [(7, .long (x3.toInt64 + u.1.toInt64)), (0, .ref (G.1 a0)), (1, .int x1), (2, .int x2), (3, .int x3), (4, .int x4), (5, .int u.1), (6, .int u.2.1)]) hx hb d_Model_steps_92 hl (by decide) rfl (fun ls hl => ?_)
      refine lv_lload hx hb d_Model_steps_94 (lv_at hl 0 rfl) ?_
      refine lv_lconst (v := 0) hx hb d_Model_steps_96 (by decide) ?_
      refine W.lcmp hx hb d_Model_steps_97 ?_
      refine lv_if_lt (tgt := 118) hx hb d_Model_steps_98 (by decide) (fun hc98 => ?_) (fun hc98 => ?_)
      · replace hm := zif_t hc98 hm
        refine lv_iconst (v := (nI 0)) hx hb d_Model_steps_118 (by decide) ?_
        exact r_Model_steps_119 X a0 x1 x2 x3 x4 u.1 (x3.toInt64 + u.1.toInt64) (nI 0) u.2.2 k74 hk74 hm hI (lv_sub hl [1, 2, 3, 4, 5, 6, 0] rfl)
      · replace hm := zif_f hc98 hm
        refine lv_lload hx hb d_Model_steps_101 (lv_at hl 0 rfl) ?_
        refine lv_aload_n hx hb d_Model_steps_103 rfl (lv_at hl 1 rfl) ?_
        obtain ⟨v104, hv, hm⟩ := zbd hm
        refine z_getR X hI F_Model_68 hv d_Model_steps_104 ?_
        refine lv_iload_n hx hb d_Model_steps_107 rfl (lv_at hl 3 rfl) ?_
        obtain ⟨v108, hv, hm⟩ := zbd hm
        refine z_iald X hI hv d_Model_steps_108 ?_
        refine lv_i2l hx hb d_Model_steps_109 rfl ?_
        refine W.lcmp hx hb d_Model_steps_110 ?_
        refine lv_if_ge (tgt := 118) hx hb d_Model_steps_111 (by decide) (fun hc111 => ?_) (fun hc111 => ?_)
        · replace hm := zif_t hc111 hm
          refine lv_iconst (v := (nI 0)) hx hb d_Model_steps_118 (by decide) ?_
          exact r_Model_steps_119 X a0 x1 x2 x3 x4 u.1 (x3.toInt64 + u.1.toInt64) (nI 0) u.2.2 k74 hk74 hm hI (lv_sub hl [1, 2, 3, 4, 5, 6, 0] rfl)
        · replace hm := zif_f hc111 hm
          refine lv_iconst (v := (nI 1)) hx hb d_Model_steps_114 (by decide) ?_
          refine lv_goto (tgt := 119) hx hb d_Model_steps_115 (by decide) ?_
          exact r_Model_steps_119 X a0 x1 x2 x3 x4 u.1 (x3.toInt64 + u.1.toInt64) (nI 1) u.2.2 k74 hk74 hm hI (lv_sub hl [1, 2, 3, 4, 5, 6, 0] rfl)
theorem r_Model_steps_74 {p : Program} {l : Launch} {e : Env} {s : State} {m : MethodId} {args : Array Value} {below : List Frame} {meth : Method} {c : Code} {G : zG} {K : Nat} (X : zX p s m args meth c "AllHomeModel" prog_9_method_42_code 10 (some .int) G (zA G K)) {r : Int32} {h' : zH} (a0 : Nat) (x1 : Int32) (x2 : Int32) (x3 : Int32) (x4 : Int32) : ∀ (n : Nat) (w : Int32 × Int32 × zH), zloop (g_Model_steps_74 a0 x1 x2 x3 x4) n w = some (r, h') → ∀ (H : Heap) (locs : List Loc) (ls : Array Slot), zI G K s (zA G K) H locs w.2.2 → lv_has ls 10 [(0, .ref (G.1 a0)), (1, .int x1), (2, .int x2), (3, .int x3), (4, .int x4), (5, .int w.1), (6, .int w.2.1)] → W p l e (zR 6) s m args below meth c H locs 0 0 (MQ below (zQi G K r h') args s 0 0 (zA G K)) (F0 m 74 ls []) := by
  intro n
  induction n with
  | zero => intro w hm; cases hm
  | succ n ih => intro w hm H locs ls hI hl; exact r_Model_steps_74_b X a0 x1 x2 x3 x4 (zloop (g_Model_steps_74 a0 x1 x2 x3 x4) n) ih w (zls hm) hI hl
set_option maxHeartbeats 4000000 in
set_option maxRecDepth 100000 in
theorem r_Model_steps_54 {p : Program} {l : Launch} {e : Env} {s : State} {m : MethodId} {args : Array Value} {below : List Frame} {meth : Method} {c : Code} {G : zG} {K : Nat} (X : zX p s m args meth c "AllHomeModel" prog_9_method_42_code 10 (some .int) G (zA G K)) {r : Int32} {h' : zH} (a0 : Nat) (x1 : Int32) (x2 : Int32) (x3 : Int32) (x4 : Int32) (h : zH) (hm : g_Model_steps_54 a0 x1 x2 x3 x4 h = some (r, h')) {H : Heap} {locs : List Loc} {ls : Array Slot} (hI : zI G K s (zA G K) H locs h) (hl : lv_has ls 10 [(0, .ref (G.1 a0)), (1, .int x1), (2, .int x2), (3, .int x3), (4, .int x4)]) : W p l e (zR 6) s m args below meth c H locs 0 0 (MQ below (zQi G K r h') args s 0 0 (zA G K)) (F0 m 54 ls []) := by
  obtain ⟨hx, hb, hml, hown, hts, hr, hlocks, hK, hST, hNs⟩ := id X
  unfold g_Model_steps_54 at hm
  refine lv_iconst (v := (nI 0)) hx hb d_Model_steps_54 (by decide) ?_
  refine lv_istore (lv' := [(5, .int (nI 0)), (0, .ref (G.1 a0)), (1, .int x1), (2, .int x2), (3, .int x3), (4, .int x4)]) hx hb d_Model_steps_55 hl (by decide) rfl (fun ls hl => ?_)
  refine lv_aload_n hx hb d_Model_steps_57 rfl (lv_at hl 1 rfl) ?_
  obtain ⟨v58, hv, hm⟩ := zbd hm
  refine z_getR X hI F_Model_65 hv d_Model_steps_58 ?_
  refine lv_iload_n hx hb d_Model_steps_61 rfl (lv_at hl 3 rfl) ?_
  obtain ⟨v62, hv, hm⟩ := zbd hm
  refine z_iald X hI hv d_Model_steps_62 ?_
  refine lv_iconst (v := (-1 : Int32)) hx hb d_Model_steps_63 (by decide) ?_
  refine lv_icmp_eq (tgt := 71) hx hb d_Model_steps_64 (by decide) (fun hc64 => ?_) (fun hc64 => ?_)
  · replace hm := zif_t hc64 hm
    refine lv_iconst (v := (nI 0)) hx hb d_Model_steps_71 (by decide) ?_
    refine lv_istore (lv' := [(6, .int (nI 0)), (5, .int (nI 0)), (0, .ref (G.1 a0)), (1, .int x1), (2, .int x2), (3, .int x3), (4, .int x4)]) hx hb d_Model_steps_72 hl (by decide) rfl (fun ls hl => ?_)
    exact r_Model_steps_74 X a0 x1 x2 x3 x4 zN ((nI 0), (nI 0), h) hm _ _ _ hI (lv_sub hl [2, 3, 4, 5, 6, 1, 0] rfl)
  · replace hm := zif_f hc64 hm
    refine lv_iconst (v := (nI 1)) hx hb d_Model_steps_67 (by decide) ?_
    refine lv_goto (tgt := 72) hx hb d_Model_steps_68 (by decide) ?_
    refine lv_istore (lv' := [(6, .int (nI 1)), (5, .int (nI 0)), (0, .ref (G.1 a0)), (1, .int x1), (2, .int x2), (3, .int x3), (4, .int x4)]) hx hb d_Model_steps_72 hl (by decide) rfl (fun ls hl => ?_)
    exact r_Model_steps_74 X a0 x1 x2 x3 x4 zN ((nI 0), (nI 1), h) hm _ _ _ hI (lv_sub hl [2, 3, 4, 5, 6, 1, 0] rfl)
set_option maxHeartbeats 4000000 in
set_option maxRecDepth 100000 in
theorem r_Model_steps_0 {p : Program} {l : Launch} {e : Env} {s : State} {m : MethodId} {args : Array Value} {below : List Frame} {meth : Method} {c : Code} {G : zG} {K : Nat} (X : zX p s m args meth c "AllHomeModel" prog_9_method_42_code 10 (some .int) G (zA G K)) {r : Int32} {h' : zH} (a0 : Nat) (x1 : Int32) (x2 : Int32) (x3 : Int32) (x4 : Int32) (h : zH) (hm : m_Model_steps a0 x1 x2 x3 x4 h = some (r, h')) {H : Heap} {locs : List Loc} {ls : Array Slot} (hI : zI G K s (zA G K) H locs h) (hl : lv_has ls 10 [(0, .ref (G.1 a0)), (1, .int x1), (2, .int x2), (3, .int x3), (4, .int x4)]) : W p l e (zR 6) s m args below meth c H locs 0 0 (MQ below (zQi G K r h') args s 0 0 (zA G K)) (F0 m 0 ls []) := by
  obtain ⟨hx, hb, hml, hown, hts, hr, hlocks, hK, hST, hNs⟩ := id X
  unfold m_Model_steps at hm
  refine lv_aload_n hx hb d_Model_steps_0 rfl (lv_at hl 0 rfl) ?_
  refine lv_iload_n hx hb d_Model_steps_1 rfl (lv_at hl 1 rfl) ?_
  obtain ⟨v2, hv, hm⟩ := zbd hm
  obtain ⟨hq, hv⟩ := zcv_at hv
  refine z_ci hI (z_runV (As := [.int x1]) (rest := []) X hI hl.1 (c_Model_isRun l G K a0 x1 h _ hv) C_Model_220 rfl hq (Nat.le_of_ble_eq_true rfl) ⟨Nat.le_of_ble_eq_true rfl, Nat.le_of_ble_eq_true rfl, Nat.zero_le _, Nat.zero_le _⟩ rfl d_Model_steps_2) (fun H locs hI => ?_)
  refine lv_if_eq (tgt := 28) hx hb d_Model_steps_5 (by decide) (fun hc5 => ?_) (fun hc5 => ?_)
  · replace hm := zif_t hc5 hm
    refine lv_iconst (v := (-1 : Int32)) hx hb d_Model_steps_28 (by decide) ?_
    obtain ⟨rfl, rfl⟩ := zs2 hm
    exact z_iret X hI d_Model_steps_29
  · replace hm := zif_f hc5 hm
    refine lv_iload_n hx hb d_Model_steps_8 rfl (lv_at hl 2 rfl) ?_
    obtain ⟨v9, hv, hm⟩ := zbd hm
    refine z_ci hI (z_runS (As := [.int x2]) (rest := []) X hI hl.1 (c_Model_isShelf l G K x2 h _ hv) C_Model_226 rfl (Nat.le_of_ble_eq_true rfl) ⟨Nat.le_of_ble_eq_true rfl, Nat.le_of_ble_eq_true rfl, Nat.zero_le _, Nat.zero_le _⟩ rfl d_Model_steps_9) (fun H locs hI => ?_)
    refine lv_if_eq (tgt := 28) hx hb d_Model_steps_12 (by decide) (fun hc12 => ?_) (fun hc12 => ?_)
    · replace hm := zif_t hc12 hm
      refine lv_iconst (v := (-1 : Int32)) hx hb d_Model_steps_28 (by decide) ?_
      obtain ⟨rfl, rfl⟩ := zs2 hm
      exact z_iret X hI d_Model_steps_29
    · replace hm := zif_f hc12 hm
      refine lv_iload hx hb d_Model_steps_15 (lv_at hl 4 rfl) ?_
      refine lv_i2l hx hb d_Model_steps_17 rfl ?_
      refine lv_lconst (v := 1) hx hb d_Model_steps_18 (by decide) ?_
      refine lv_ldc2 hx hb hown (hts _ kw944) d_Model_steps_19 ?_
      obtain ⟨v22, hv, hm⟩ := zbd hm
      refine z_ci hI (z_runS (As := [.long x4.toInt64, .long (1 : Int64), .long (60 : Int64)]) (rest := []) X hI hl.1 (c_Model_within l G K x4.toInt64 (1 : Int64) (60 : Int64) h _ hv) C_Model_87 rfl (Nat.le_of_ble_eq_true rfl) ⟨Nat.le_of_ble_eq_true rfl, Nat.le_of_ble_eq_true rfl, Nat.zero_le _, Nat.zero_le _⟩ rfl d_Model_steps_22) (fun H locs hI => ?_)
      refine lv_if_ne (tgt := 30) hx hb d_Model_steps_25 (by decide) (fun hc25 => ?_) (fun hc25 => ?_)
      · replace hm := zif_f hc25 hm
        refine lv_aload_n hx hb d_Model_steps_30 rfl (lv_at hl 0 rfl) ?_
        obtain ⟨v31, hv, hm⟩ := zbd hm
        refine z_getR X hI F_Model_65 hv d_Model_steps_31 ?_
        refine lv_iload_n hx hb d_Model_steps_34 rfl (lv_at hl 2 rfl) ?_
        obtain ⟨v35, hv, hm⟩ := zbd hm
        refine z_iald X hI hv d_Model_steps_35 ?_
        refine lv_iconst (v := (-1 : Int32)) hx hb d_Model_steps_36 (by decide) ?_
        refine lv_icmp_eq (tgt := 54) hx hb d_Model_steps_37 (by decide) (fun hc37 => ?_) (fun hc37 => ?_)
        · replace hm := zif_t hc37 hm
          exact r_Model_steps_54 X a0 x1 x2 x3 x4 h hm hI (lv_sub hl [0, 1, 2, 3, 4] rfl)
        · replace hm := zif_f hc37 hm
          refine lv_aload_n hx hb d_Model_steps_40 rfl (lv_at hl 0 rfl) ?_
          obtain ⟨v41, hv, hm⟩ := zbd hm
          refine z_getR X hI F_Model_65 hv d_Model_steps_41 ?_
          refine lv_iload_n hx hb d_Model_steps_44 rfl (lv_at hl 2 rfl) ?_
          obtain ⟨v45, hv, hm⟩ := zbd hm
          refine z_iald X hI hv d_Model_steps_45 ?_
          refine lv_bipush (v := (nI 11)) hx hb d_Model_steps_46 (by decide) ?_
          refine lv_icmp_eq (tgt := 54) hx hb d_Model_steps_48 (by decide) (fun hc48 => ?_) (fun hc48 => ?_)
          · replace hm := zif_t hc48 hm
            exact r_Model_steps_54 X a0 x1 x2 x3 x4 h hm hI (lv_sub hl [0, 1, 2, 3, 4] rfl)
          · replace hm := zif_f hc48 hm
            refine lv_bipush (v := (-12 : Int32)) hx hb d_Model_steps_51 (by decide) ?_
            obtain ⟨rfl, rfl⟩ := zs2 hm
            exact z_iret X hI d_Model_steps_53
      · replace hm := zif_t hc25 hm
        refine lv_iconst (v := (-1 : Int32)) hx hb d_Model_steps_28 (by decide) ?_
        obtain ⟨rfl, rfl⟩ := zs2 hm
        exact z_iret X hI d_Model_steps_29
set_option maxHeartbeats 4000000 in
set_option maxRecDepth 100000 in
theorem c_Model_steps (l : Launch) (G : zG) (K : Nat) (a0 : Nat) (x1 : Int32) (x2 : Int32) (x3 : Int32) (x4 : Int32) (h : zH) (r : Int32) (h' : zH) (hm : m_Model_steps a0 x1 x2 x3 x4 h = some (r, h')) : zMi l G K y_Model_steps prog_9_method_42_code 10 6 [.ref (G.1 a0), .int x1, .int x2, .int x3, .int x4] h r h' := zMet (by decide +kernel) (Nat.le_of_ble_eq_true rfl) (fun p e s m below meth c ls X hI hl => r_Model_steps_0 X a0 x1 x2 x3 x4 h hm hI hl)
-- walk of AllHomeModel.ofRun
theorem d_Model_ofRun_0 : decode prog_9_method_43_code 0 = .ok (.aload_n 0, 1) := by decide +kernel
theorem d_Model_ofRun_1 : decode prog_9_method_43_code 1 = .ok (.iload_n 1, 1) := by decide +kernel
theorem d_Model_ofRun_2 : decode prog_9_method_43_code 2 = .ok (.invokevirtual 220, 3) := by decide +kernel
theorem d_Model_ofRun_5 : decode prog_9_method_43_code 5 = .ok (.ifCond .ne 5, 3) := by decide +kernel
theorem d_Model_ofRun_8 : decode prog_9_method_43_code 8 = .ok (.iconst (-1), 1) := by decide +kernel
theorem d_Model_ofRun_9 : decode prog_9_method_43_code 9 = .ok (.ireturn, 1) := by decide +kernel
theorem d_Model_ofRun_10 : decode prog_9_method_43_code 10 = .ok (.aload_n 0, 1) := by decide +kernel
theorem d_Model_ofRun_11 : decode prog_9_method_43_code 11 = .ok (.iload_n 1, 1) := by decide +kernel
theorem d_Model_ofRun_12 : decode prog_9_method_43_code 12 = .ok (.invokevirtual 210, 3) := by decide +kernel
theorem d_Model_ofRun_15 : decode prog_9_method_43_code 15 = .ok (.iconst 0, 1) := by decide +kernel
theorem d_Model_ofRun_16 : decode prog_9_method_43_code 16 = .ok (.istore_n 3, 1) := by decide +kernel
theorem d_Model_ofRun_17 : decode prog_9_method_43_code 17 = .ok (.iconst 0, 1) := by decide +kernel
theorem d_Model_ofRun_18 : decode prog_9_method_43_code 18 = .ok (.istore 4, 2) := by decide +kernel
theorem d_Model_ofRun_20 : decode prog_9_method_43_code 20 = .ok (.iload 4, 2) := by decide +kernel
theorem d_Model_ofRun_22 : decode prog_9_method_43_code 22 = .ok (.aload_n 0, 1) := by decide +kernel
theorem d_Model_ofRun_23 : decode prog_9_method_43_code 23 = .ok (.getfield 78, 3) := by decide +kernel
theorem d_Model_ofRun_26 : decode prog_9_method_43_code 26 = .ok (.if_icmp .ge 19, 3) := by decide +kernel
theorem d_Model_ofRun_29 : decode prog_9_method_43_code 29 = .ok (.iload_n 3, 1) := by decide +kernel
theorem d_Model_ofRun_30 : decode prog_9_method_43_code 30 = .ok (.aload_n 0, 1) := by decide +kernel
theorem d_Model_ofRun_31 : decode prog_9_method_43_code 31 = .ok (.iload 4, 2) := by decide +kernel
theorem d_Model_ofRun_33 : decode prog_9_method_43_code 33 = .ok (.iconst 0, 1) := by decide +kernel
theorem d_Model_ofRun_34 : decode prog_9_method_43_code 34 = .ok (.invokevirtual 155, 3) := by decide +kernel
theorem d_Model_ofRun_37 : decode prog_9_method_43_code 37 = .ok (.iadd, 1) := by decide +kernel
theorem d_Model_ofRun_38 : decode prog_9_method_43_code 38 = .ok (.istore_n 3, 1) := by decide +kernel
theorem d_Model_ofRun_39 : decode prog_9_method_43_code 39 = .ok (.iinc 4 1, 3) := by decide +kernel
theorem d_Model_ofRun_42 : decode prog_9_method_43_code 42 = .ok (.goto (-22), 3) := by decide +kernel
theorem d_Model_ofRun_45 : decode prog_9_method_43_code 45 = .ok (.iload_n 2, 1) := by decide +kernel
theorem d_Model_ofRun_46 : decode prog_9_method_43_code 46 = .ok (.tableswitch 129 0 10 #[58, 65, 72, 77, 82, 95, 103, 105, 110, 115, 122], 58) := by decide +kernel
theorem d_Model_ofRun_104 : decode prog_9_method_43_code 104 = .ok (.aload_n 0, 1) := by decide +kernel
theorem d_Model_ofRun_105 : decode prog_9_method_43_code 105 = .ok (.getfield 28, 3) := by decide +kernel
theorem d_Model_ofRun_108 : decode prog_9_method_43_code 108 = .ok (.iload_n 1, 1) := by decide +kernel
theorem d_Model_ofRun_109 : decode prog_9_method_43_code 109 = .ok (.iaload, 1) := by decide +kernel
theorem d_Model_ofRun_110 : decode prog_9_method_43_code 110 = .ok (.ireturn, 1) := by decide +kernel
theorem d_Model_ofRun_111 : decode prog_9_method_43_code 111 = .ok (.aload_n 0, 1) := by decide +kernel
theorem d_Model_ofRun_112 : decode prog_9_method_43_code 112 = .ok (.getfield 31, 3) := by decide +kernel
theorem d_Model_ofRun_115 : decode prog_9_method_43_code 115 = .ok (.iload_n 1, 1) := by decide +kernel
theorem d_Model_ofRun_116 : decode prog_9_method_43_code 116 = .ok (.iaload, 1) := by decide +kernel
theorem d_Model_ofRun_117 : decode prog_9_method_43_code 117 = .ok (.ireturn, 1) := by decide +kernel
theorem d_Model_ofRun_118 : decode prog_9_method_43_code 118 = .ok (.aload_n 0, 1) := by decide +kernel
theorem d_Model_ofRun_119 : decode prog_9_method_43_code 119 = .ok (.invokevirtual 172, 3) := by decide +kernel
theorem d_Model_ofRun_122 : decode prog_9_method_43_code 122 = .ok (.ireturn, 1) := by decide +kernel
theorem d_Model_ofRun_123 : decode prog_9_method_43_code 123 = .ok (.aload_n 0, 1) := by decide +kernel
theorem d_Model_ofRun_124 : decode prog_9_method_43_code 124 = .ok (.invokevirtual 179, 3) := by decide +kernel
theorem d_Model_ofRun_127 : decode prog_9_method_43_code 127 = .ok (.ireturn, 1) := by decide +kernel
theorem d_Model_ofRun_128 : decode prog_9_method_43_code 128 = .ok (.aload_n 0, 1) := by decide +kernel
theorem d_Model_ofRun_129 : decode prog_9_method_43_code 129 = .ok (.invokevirtual 216, 3) := by decide +kernel
theorem d_Model_ofRun_132 : decode prog_9_method_43_code 132 = .ok (.ifCond .eq 7, 3) := by decide +kernel
theorem d_Model_ofRun_135 : decode prog_9_method_43_code 135 = .ok (.iconst 1, 1) := by decide +kernel
theorem d_Model_ofRun_136 : decode prog_9_method_43_code 136 = .ok (.goto 4, 3) := by decide +kernel
theorem d_Model_ofRun_139 : decode prog_9_method_43_code 139 = .ok (.iconst 0, 1) := by decide +kernel
theorem d_Model_ofRun_140 : decode prog_9_method_43_code 140 = .ok (.ireturn, 1) := by decide +kernel
theorem d_Model_ofRun_141 : decode prog_9_method_43_code 141 = .ok (.aload_n 0, 1) := by decide +kernel
theorem d_Model_ofRun_142 : decode prog_9_method_43_code 142 = .ok (.getfield 22, 3) := by decide +kernel
theorem d_Model_ofRun_145 : decode prog_9_method_43_code 145 = .ok (.bipush 87, 2) := by decide +kernel
theorem d_Model_ofRun_147 : decode prog_9_method_43_code 147 = .ok (.iaload, 1) := by decide +kernel
theorem d_Model_ofRun_148 : decode prog_9_method_43_code 148 = .ok (.ireturn, 1) := by decide +kernel
theorem d_Model_ofRun_149 : decode prog_9_method_43_code 149 = .ok (.iload_n 3, 1) := by decide +kernel
theorem d_Model_ofRun_150 : decode prog_9_method_43_code 150 = .ok (.ireturn, 1) := by decide +kernel
theorem d_Model_ofRun_151 : decode prog_9_method_43_code 151 = .ok (.aload_n 0, 1) := by decide +kernel
theorem d_Model_ofRun_152 : decode prog_9_method_43_code 152 = .ok (.getfield 137, 3) := by decide +kernel
theorem d_Model_ofRun_155 : decode prog_9_method_43_code 155 = .ok (.ireturn, 1) := by decide +kernel
theorem d_Model_ofRun_156 : decode prog_9_method_43_code 156 = .ok (.aload_n 0, 1) := by decide +kernel
theorem d_Model_ofRun_157 : decode prog_9_method_43_code 157 = .ok (.getfield 140, 3) := by decide +kernel
theorem d_Model_ofRun_160 : decode prog_9_method_43_code 160 = .ok (.ireturn, 1) := by decide +kernel
theorem d_Model_ofRun_161 : decode prog_9_method_43_code 161 = .ok (.aload_n 0, 1) := by decide +kernel
theorem d_Model_ofRun_162 : decode prog_9_method_43_code 162 = .ok (.getfield 40, 3) := by decide +kernel
theorem d_Model_ofRun_165 : decode prog_9_method_43_code 165 = .ok (.iload_n 1, 1) := by decide +kernel
theorem d_Model_ofRun_166 : decode prog_9_method_43_code 166 = .ok (.iaload, 1) := by decide +kernel
theorem d_Model_ofRun_167 : decode prog_9_method_43_code 167 = .ok (.ireturn, 1) := by decide +kernel
theorem d_Model_ofRun_168 : decode prog_9_method_43_code 168 = .ok (.aload_n 0, 1) := by decide +kernel
theorem d_Model_ofRun_169 : decode prog_9_method_43_code 169 = .ok (.getfield 43, 3) := by decide +kernel
theorem d_Model_ofRun_172 : decode prog_9_method_43_code 172 = .ok (.iload_n 1, 1) := by decide +kernel
theorem d_Model_ofRun_173 : decode prog_9_method_43_code 173 = .ok (.iaload, 1) := by decide +kernel
theorem d_Model_ofRun_174 : decode prog_9_method_43_code 174 = .ok (.ireturn, 1) := by decide +kernel
theorem d_Model_ofRun_175 : decode prog_9_method_43_code 175 = .ok (.iconst (-1), 1) := by decide +kernel
theorem d_Model_ofRun_176 : decode prog_9_method_43_code 176 = .ok (.ireturn, 1) := by decide +kernel
set_option maxHeartbeats 4000000 in
set_option maxRecDepth 100000 in
theorem r_Model_ofRun_20_b {p : Program} {l : Launch} {e : Env} {s : State} {m : MethodId} {args : Array Value} {below : List Frame} {meth : Method} {c : Code} {G : zG} {K : Nat} (X : zX p s m args meth c "AllHomeModel" prog_9_method_43_code 5 (some .int) G (zA G K)) {r : Int32} {h' : zH} (a0 : Nat) (x1 : Int32) (x2 : Int32) (h : zH) (k20 : (Int32 × Int32) → Option (Int32 × zH)) (hk20 : ∀ (w : Int32 × Int32), k20 w = some (r, h') → ∀ (H : Heap) (locs : List Loc) (ls : Array Slot), zI G K s (zA G K) H locs h → lv_has ls 5 [(0, .ref (G.1 a0)), (1, .int x1), (2, .int x2), (3, .int w.1), (4, .int w.2)] → W p l e (zR 2) s m args below meth c H locs 0 0 (MQ below (zQi G K r h') args s 0 0 (zA G K)) (F0 m 20 ls [])) (u : Int32 × Int32) (hm : g_Model_ofRun_20 a0 x1 x2 h k20 u = some (r, h')) {H : Heap} {locs : List Loc} {ls : Array Slot} (hI : zI G K s (zA G K) H locs h) (hl : lv_has ls 5 [(0, .ref (G.1 a0)), (1, .int x1), (2, .int x2), (3, .int u.1), (4, .int u.2)]) : W p l e (zR 2) s m args below meth c H locs 0 0 (MQ below (zQi G K r h') args s 0 0 (zA G K)) (F0 m 20 ls []) := by
  obtain ⟨hx, hb, hml, hown, hts, hr, hlocks, hK, hST, hNs⟩ := id X
  unfold g_Model_ofRun_20 at hm
  refine lv_iload hx hb d_Model_ofRun_20 (lv_at hl 4 rfl) ?_
  refine lv_aload_n hx hb d_Model_ofRun_22 rfl (lv_at hl 0 rfl) ?_
  obtain ⟨v23, hv, hm⟩ := zbd hm
  refine z_getI X hI F_Model_78 hv d_Model_ofRun_23 ?_
  refine lv_icmp_ge (tgt := 45) hx hb d_Model_ofRun_26 (by decide) (fun hc26 => ?_) (fun hc26 => ?_)
  · replace hm := zif_t hc26 hm
    refine lv_iload_n hx hb d_Model_ofRun_45 rfl (lv_at hl 2 rfl) ?_
    by_cases hs46_0 : x2 = (nI 0)
    · replace hm := zif_t hs46_0 hm
      refine lv_tableIn (off := 58) (tgt := 104) hx hb d_Model_ofRun_46 (by rw [hs46_0]; decide) (by rw [hs46_0]; decide) (by rw [hs46_0]; rfl) (by decide) ?_
      refine lv_aload_n hx hb d_Model_ofRun_104 rfl (lv_at hl 0 rfl) ?_
      obtain ⟨v105, hv, hm⟩ := zbd hm
      refine z_getR X hI F_Model_28 hv d_Model_ofRun_105 ?_
      refine lv_iload_n hx hb d_Model_ofRun_108 rfl (lv_at hl 1 rfl) ?_
      obtain ⟨v109, hv, hm⟩ := zbd hm
      refine z_iald X hI hv d_Model_ofRun_109 ?_
      obtain ⟨rfl, rfl⟩ := zs2 hm
      exact z_iret X hI d_Model_ofRun_110
    · replace hm := zif_f hs46_0 hm
      by_cases hs46_1 : x2 = (nI 1)
      · replace hm := zif_t hs46_1 hm
        refine lv_tableIn (off := 65) (tgt := 111) hx hb d_Model_ofRun_46 (by rw [hs46_1]; decide) (by rw [hs46_1]; decide) (by rw [hs46_1]; rfl) (by decide) ?_
        refine lv_aload_n hx hb d_Model_ofRun_111 rfl (lv_at hl 0 rfl) ?_
        obtain ⟨v112, hv, hm⟩ := zbd hm
        refine z_getR X hI F_Model_31 hv d_Model_ofRun_112 ?_
        refine lv_iload_n hx hb d_Model_ofRun_115 rfl (lv_at hl 1 rfl) ?_
        obtain ⟨v116, hv, hm⟩ := zbd hm
        refine z_iald X hI hv d_Model_ofRun_116 ?_
        obtain ⟨rfl, rfl⟩ := zs2 hm
        exact z_iret X hI d_Model_ofRun_117
      · replace hm := zif_f hs46_1 hm
        by_cases hs46_2 : x2 = (nI 2)
        · replace hm := zif_t hs46_2 hm
          refine lv_tableIn (off := 72) (tgt := 118) hx hb d_Model_ofRun_46 (by rw [hs46_2]; decide) (by rw [hs46_2]; decide) (by rw [hs46_2]; rfl) (by decide) ?_
          refine lv_aload_n hx hb d_Model_ofRun_118 rfl (lv_at hl 0 rfl) ?_
          obtain ⟨v119, hv, hm⟩ := zbd hm
          obtain ⟨hq, hv⟩ := zcv_at hv
          refine z_ci hI (z_runV (As := []) (rest := []) X hI hl.1 (c_Model_words l G K a0 h _ hv) C_Model_172 rfl hq (Nat.le_of_ble_eq_true rfl) ⟨Nat.le_of_ble_eq_true rfl, Nat.le_of_ble_eq_true rfl, Nat.zero_le _, Nat.zero_le _⟩ rfl d_Model_ofRun_119) (fun H locs hI => ?_)
          obtain ⟨rfl, rfl⟩ := zs2 hm
          exact z_iret X hI d_Model_ofRun_122
        · replace hm := zif_f hs46_2 hm
          by_cases hs46_3 : x2 = (nI 3)
          · replace hm := zif_t hs46_3 hm
            refine lv_tableIn (off := 77) (tgt := 123) hx hb d_Model_ofRun_46 (by rw [hs46_3]; decide) (by rw [hs46_3]; decide) (by rw [hs46_3]; rfl) (by decide) ?_
            refine lv_aload_n hx hb d_Model_ofRun_123 rfl (lv_at hl 0 rfl) ?_
            obtain ⟨v124, hv, hm⟩ := zbd hm
            obtain ⟨hq, hv⟩ := zcv_at hv
            refine z_ci hI (z_runV (As := []) (rest := []) X hI hl.1 (c_Model_notes l G K a0 h _ hv) C_Model_179 rfl hq (Nat.le_of_ble_eq_true rfl) ⟨Nat.le_of_ble_eq_true rfl, Nat.le_of_ble_eq_true rfl, Nat.zero_le _, Nat.zero_le _⟩ rfl d_Model_ofRun_124) (fun H locs hI => ?_)
            obtain ⟨rfl, rfl⟩ := zs2 hm
            exact z_iret X hI d_Model_ofRun_127
          · replace hm := zif_f hs46_3 hm
            by_cases hs46_4 : x2 = (nI 4)
            · replace hm := zif_t hs46_4 hm
              refine lv_tableIn (off := 82) (tgt := 128) hx hb d_Model_ofRun_46 (by rw [hs46_4]; decide) (by rw [hs46_4]; decide) (by rw [hs46_4]; rfl) (by decide) ?_
              refine lv_aload_n hx hb d_Model_ofRun_128 rfl (lv_at hl 0 rfl) ?_
              obtain ⟨v129, hv, hm⟩ := zbd hm
              obtain ⟨hq, hv⟩ := zcv_at hv
              refine z_ci hI (z_runV (As := []) (rest := []) X hI hl.1 (c_Model_isOver l G K a0 h _ hv) C_Model_216 rfl hq (Nat.le_of_ble_eq_true rfl) ⟨Nat.le_of_ble_eq_true rfl, Nat.le_of_ble_eq_true rfl, Nat.zero_le _, Nat.zero_le _⟩ rfl d_Model_ofRun_129) (fun H locs hI => ?_)
              refine lv_if_eq (tgt := 139) hx hb d_Model_ofRun_132 (by decide) (fun hc132 => ?_) (fun hc132 => ?_)
              · replace hm := zif_t hc132 hm
                refine lv_iconst (v := (nI 0)) hx hb d_Model_ofRun_139 (by decide) ?_
                obtain ⟨rfl, rfl⟩ := zs2 hm
                exact z_iret X hI d_Model_ofRun_140
              · replace hm := zif_f hc132 hm
                refine lv_iconst (v := (nI 1)) hx hb d_Model_ofRun_135 (by decide) ?_
                refine lv_goto (tgt := 140) hx hb d_Model_ofRun_136 (by decide) ?_
                obtain ⟨rfl, rfl⟩ := zs2 hm
                exact z_iret X hI d_Model_ofRun_140
            · replace hm := zif_f hs46_4 hm
              by_cases hs46_5 : x2 = (nI 5)
              · replace hm := zif_t hs46_5 hm
                refine lv_tableIn (off := 95) (tgt := 141) hx hb d_Model_ofRun_46 (by rw [hs46_5]; decide) (by rw [hs46_5]; decide) (by rw [hs46_5]; rfl) (by decide) ?_
                refine lv_aload_n hx hb d_Model_ofRun_141 rfl (lv_at hl 0 rfl) ?_
                obtain ⟨v142, hv, hm⟩ := zbd hm
                refine z_getR X hI F_Model_22 hv d_Model_ofRun_142 ?_
                refine lv_bipush (v := (nI 87)) hx hb d_Model_ofRun_145 (by decide) ?_
                obtain ⟨v147, hv, hm⟩ := zbd hm
                refine z_iald X hI hv d_Model_ofRun_147 ?_
                obtain ⟨rfl, rfl⟩ := zs2 hm
                exact z_iret X hI d_Model_ofRun_148
              · replace hm := zif_f hs46_5 hm
                by_cases hs46_6 : x2 = (nI 6)
                · replace hm := zif_t hs46_6 hm
                  refine lv_tableIn (off := 103) (tgt := 149) hx hb d_Model_ofRun_46 (by rw [hs46_6]; decide) (by rw [hs46_6]; decide) (by rw [hs46_6]; rfl) (by decide) ?_
                  refine lv_iload_n hx hb d_Model_ofRun_149 rfl (lv_at hl 3 rfl) ?_
                  obtain ⟨rfl, rfl⟩ := zs2 hm
                  exact z_iret X hI d_Model_ofRun_150
                · replace hm := zif_f hs46_6 hm
                  by_cases hs46_7 : x2 = (nI 7)
                  · replace hm := zif_t hs46_7 hm
                    refine lv_tableIn (off := 105) (tgt := 151) hx hb d_Model_ofRun_46 (by rw [hs46_7]; decide) (by rw [hs46_7]; decide) (by rw [hs46_7]; rfl) (by decide) ?_
                    refine lv_aload_n hx hb d_Model_ofRun_151 rfl (lv_at hl 0 rfl) ?_
                    obtain ⟨v152, hv, hm⟩ := zbd hm
                    refine z_getI X hI F_Model_137 hv d_Model_ofRun_152 ?_
                    obtain ⟨rfl, rfl⟩ := zs2 hm
                    exact z_iret X hI d_Model_ofRun_155
                  · replace hm := zif_f hs46_7 hm
                    by_cases hs46_8 : x2 = (nI 8)
                    · replace hm := zif_t hs46_8 hm
                      refine lv_tableIn (off := 110) (tgt := 156) hx hb d_Model_ofRun_46 (by rw [hs46_8]; decide) (by rw [hs46_8]; decide) (by rw [hs46_8]; rfl) (by decide) ?_
                      refine lv_aload_n hx hb d_Model_ofRun_156 rfl (lv_at hl 0 rfl) ?_
                      obtain ⟨v157, hv, hm⟩ := zbd hm
                      refine z_getI X hI F_Model_140 hv d_Model_ofRun_157 ?_
                      obtain ⟨rfl, rfl⟩ := zs2 hm
                      exact z_iret X hI d_Model_ofRun_160
                    · replace hm := zif_f hs46_8 hm
                      by_cases hs46_9 : x2 = (nI 9)
                      · replace hm := zif_t hs46_9 hm
                        refine lv_tableIn (off := 115) (tgt := 161) hx hb d_Model_ofRun_46 (by rw [hs46_9]; decide) (by rw [hs46_9]; decide) (by rw [hs46_9]; rfl) (by decide) ?_
                        refine lv_aload_n hx hb d_Model_ofRun_161 rfl (lv_at hl 0 rfl) ?_
                        obtain ⟨v162, hv, hm⟩ := zbd hm
                        refine z_getR X hI F_Model_40 hv d_Model_ofRun_162 ?_
                        refine lv_iload_n hx hb d_Model_ofRun_165 rfl (lv_at hl 1 rfl) ?_
                        obtain ⟨v166, hv, hm⟩ := zbd hm
                        refine z_iald X hI hv d_Model_ofRun_166 ?_
                        obtain ⟨rfl, rfl⟩ := zs2 hm
                        exact z_iret X hI d_Model_ofRun_167
                      · replace hm := zif_f hs46_9 hm
                        by_cases hs46_10 : x2 = (nI 10)
                        · replace hm := zif_t hs46_10 hm
                          refine lv_tableIn (off := 122) (tgt := 168) hx hb d_Model_ofRun_46 (by rw [hs46_10]; decide) (by rw [hs46_10]; decide) (by rw [hs46_10]; rfl) (by decide) ?_
                          refine lv_aload_n hx hb d_Model_ofRun_168 rfl (lv_at hl 0 rfl) ?_
                          obtain ⟨v169, hv, hm⟩ := zbd hm
                          refine z_getR X hI F_Model_43 hv d_Model_ofRun_169 ?_
                          refine lv_iload_n hx hb d_Model_ofRun_172 rfl (lv_at hl 1 rfl) ?_
                          obtain ⟨v173, hv, hm⟩ := zbd hm
                          refine z_iald X hI hv d_Model_ofRun_173 ?_
                          obtain ⟨rfl, rfl⟩ := zs2 hm
                          exact z_iret X hI d_Model_ofRun_174
                        · replace hm := zif_f hs46_10 hm
                          have he0 : (x2).toInt ≠ 0 := fun q => hs46_0 (Int32.toInt_inj.mp (q.trans (by decide)))
                          have he1 : (x2).toInt ≠ 1 := fun q => hs46_1 (Int32.toInt_inj.mp (q.trans (by decide)))
                          have he2 : (x2).toInt ≠ 2 := fun q => hs46_2 (Int32.toInt_inj.mp (q.trans (by decide)))
                          have he3 : (x2).toInt ≠ 3 := fun q => hs46_3 (Int32.toInt_inj.mp (q.trans (by decide)))
                          have he4 : (x2).toInt ≠ 4 := fun q => hs46_4 (Int32.toInt_inj.mp (q.trans (by decide)))
                          have he5 : (x2).toInt ≠ 5 := fun q => hs46_5 (Int32.toInt_inj.mp (q.trans (by decide)))
                          have he6 : (x2).toInt ≠ 6 := fun q => hs46_6 (Int32.toInt_inj.mp (q.trans (by decide)))
                          have he7 : (x2).toInt ≠ 7 := fun q => hs46_7 (Int32.toInt_inj.mp (q.trans (by decide)))
                          have he8 : (x2).toInt ≠ 8 := fun q => hs46_8 (Int32.toInt_inj.mp (q.trans (by decide)))
                          have he9 : (x2).toInt ≠ 9 := fun q => hs46_9 (Int32.toInt_inj.mp (q.trans (by decide)))
                          have he10 : (x2).toInt ≠ 10 := fun q => hs46_10 (Int32.toInt_inj.mp (q.trans (by decide)))
                          refine lv_tableOut (tgt := 175) hx hb d_Model_ofRun_46 (by omega) (by decide) ?_
                          refine lv_iconst (v := (-1 : Int32)) hx hb d_Model_ofRun_175 (by decide) ?_
                          obtain ⟨rfl, rfl⟩ := zs2 hm
                          exact z_iret X hI d_Model_ofRun_176
  · replace hm := zif_f hc26 hm
    refine lv_iload_n hx hb d_Model_ofRun_29 rfl (lv_at hl 3 rfl) ?_
    refine lv_aload_n hx hb d_Model_ofRun_30 rfl (lv_at hl 0 rfl) ?_
    refine lv_iload hx hb d_Model_ofRun_31 (lv_at hl 4 rfl) ?_
    refine lv_iconst (v := (nI 0)) hx hb d_Model_ofRun_33 (by decide) ?_
    obtain ⟨v34, hv, hm⟩ := zbd hm
    obtain ⟨hq, hv⟩ := zcv_at hv
    refine z_ci hI (z_runV (As := [.int u.2, .int (nI 0)]) (rest := [.int u.1]) X hI hl.1 (c_Model_of l G K a0 u.2 (nI 0) h _ hv) C_Model_155 rfl hq (Nat.le_of_ble_eq_true rfl) ⟨Nat.le_of_ble_eq_true rfl, Nat.le_of_ble_eq_true rfl, Nat.zero_le _, Nat.zero_le _⟩ rfl d_Model_ofRun_34) (fun H locs hI => ?_)
    refine lv_iadd hx hb d_Model_ofRun_37 ?_
    refine lv_istore_n (lv' := [(3, .int (u.1 + v34)), (0, .ref (G.1 a0)), (1, .int x1), (2, .int x2), (4, .int u.2)]) hx hb d_Model_ofRun_38 rfl hl (by decide) rfl (fun ls hl => ?_)
    refine lv_iinc (v := (u.2 + (nI 1))) (lv' := [(4, .int (u.2 + (nI 1))), (3, .int (u.1 + v34)), (0, .ref (G.1 a0)), (1, .int x1), (2, .int x2)]) hx hb d_Model_ofRun_39 hl (k := 4) rfl (congrArg (fun z => u.2 + z) (show Int32.ofInt (1) = (nI 1) by decide)) (by decide) rfl (fun ls hl => ?_)
    refine lv_goto (tgt := 20) hx hb d_Model_ofRun_42 (by decide) ?_
    obtain ⟨g0, e0⟩ : ∃ z, z = (u.1 + v34) := ⟨_, rfl⟩
    rw [← e0] at hm hl
    obtain ⟨g1, e1⟩ : ∃ z, z = (u.2 + (nI 1)) := ⟨_, rfl⟩
    rw [← e1] at hm hl
    exact hk20 (g0, g1) hm _ _ _ hI (lv_sub hl [2, 3, 4, 1, 0] rfl)
theorem r_Model_ofRun_20 {p : Program} {l : Launch} {e : Env} {s : State} {m : MethodId} {args : Array Value} {below : List Frame} {meth : Method} {c : Code} {G : zG} {K : Nat} (X : zX p s m args meth c "AllHomeModel" prog_9_method_43_code 5 (some .int) G (zA G K)) {r : Int32} {h' : zH} (a0 : Nat) (x1 : Int32) (x2 : Int32) (h : zH) : ∀ (n : Nat) (w : Int32 × Int32), zloop (g_Model_ofRun_20 a0 x1 x2 h) n w = some (r, h') → ∀ (H : Heap) (locs : List Loc) (ls : Array Slot), zI G K s (zA G K) H locs h → lv_has ls 5 [(0, .ref (G.1 a0)), (1, .int x1), (2, .int x2), (3, .int w.1), (4, .int w.2)] → W p l e (zR 2) s m args below meth c H locs 0 0 (MQ below (zQi G K r h') args s 0 0 (zA G K)) (F0 m 20 ls []) := by
  intro n
  induction n with
  | zero => intro w hm; cases hm
  | succ n ih => intro w hm H locs ls hI hl; exact r_Model_ofRun_20_b X a0 x1 x2 h (zloop (g_Model_ofRun_20 a0 x1 x2 h) n) ih w (zls hm) hI hl
set_option maxHeartbeats 4000000 in
set_option maxRecDepth 100000 in
theorem r_Model_ofRun_0 {p : Program} {l : Launch} {e : Env} {s : State} {m : MethodId} {args : Array Value} {below : List Frame} {meth : Method} {c : Code} {G : zG} {K : Nat} (X : zX p s m args meth c "AllHomeModel" prog_9_method_43_code 5 (some .int) G (zA G K)) {r : Int32} {h' : zH} (a0 : Nat) (x1 : Int32) (x2 : Int32) (h : zH) (hm : m_Model_ofRun a0 x1 x2 h = some (r, h')) {H : Heap} {locs : List Loc} {ls : Array Slot} (hI : zI G K s (zA G K) H locs h) (hl : lv_has ls 5 [(0, .ref (G.1 a0)), (1, .int x1), (2, .int x2)]) : W p l e (zR 2) s m args below meth c H locs 0 0 (MQ below (zQi G K r h') args s 0 0 (zA G K)) (F0 m 0 ls []) := by
  obtain ⟨hx, hb, hml, hown, hts, hr, hlocks, hK, hST, hNs⟩ := id X
  unfold m_Model_ofRun at hm
  refine lv_aload_n hx hb d_Model_ofRun_0 rfl (lv_at hl 0 rfl) ?_
  refine lv_iload_n hx hb d_Model_ofRun_1 rfl (lv_at hl 1 rfl) ?_
  obtain ⟨v2, hv, hm⟩ := zbd hm
  obtain ⟨hq, hv⟩ := zcv_at hv
  refine z_ci hI (z_runV (As := [.int x1]) (rest := []) X hI hl.1 (c_Model_isRun l G K a0 x1 h _ hv) C_Model_220 rfl hq (Nat.le_of_ble_eq_true rfl) ⟨Nat.le_of_ble_eq_true rfl, Nat.le_of_ble_eq_true rfl, Nat.zero_le _, Nat.zero_le _⟩ rfl d_Model_ofRun_2) (fun H locs hI => ?_)
  refine lv_if_ne (tgt := 10) hx hb d_Model_ofRun_5 (by decide) (fun hc5 => ?_) (fun hc5 => ?_)
  · replace hm := zif_f hc5 hm
    refine lv_aload_n hx hb d_Model_ofRun_10 rfl (lv_at hl 0 rfl) ?_
    refine lv_iload_n hx hb d_Model_ofRun_11 rfl (lv_at hl 1 rfl) ?_
    obtain ⟨h12, hv, hm⟩ := zbd hm
    obtain ⟨hq, hv⟩ := zcv_at hv
    refine z_cv hI (z_runV (As := [.int x1]) (rest := []) X hI hl.1 (c_Model_takeRun l G K a0 x1 h _ hv) C_Model_210 rfl hq (Nat.le_of_ble_eq_true rfl) ⟨Nat.le_of_ble_eq_true rfl, Nat.le_of_ble_eq_true rfl, Nat.zero_le _, Nat.zero_le _⟩ rfl d_Model_ofRun_12) (fun H locs hI => ?_)
    refine lv_iconst (v := (nI 0)) hx hb d_Model_ofRun_15 (by decide) ?_
    refine lv_istore_n (lv' := [(3, .int (nI 0)), (0, .ref (G.1 a0)), (1, .int x1), (2, .int x2)]) hx hb d_Model_ofRun_16 rfl hl (by decide) rfl (fun ls hl => ?_)
    refine lv_iconst (v := (nI 0)) hx hb d_Model_ofRun_17 (by decide) ?_
    refine lv_istore (lv' := [(4, .int (nI 0)), (3, .int (nI 0)), (0, .ref (G.1 a0)), (1, .int x1), (2, .int x2)]) hx hb d_Model_ofRun_18 hl (by decide) rfl (fun ls hl => ?_)
    exact r_Model_ofRun_20 X a0 x1 x2 h12 zN ((nI 0), (nI 0)) hm _ _ _ hI (lv_sub hl [2, 3, 4, 1, 0] rfl)
  · replace hm := zif_t hc5 hm
    refine lv_iconst (v := (-1 : Int32)) hx hb d_Model_ofRun_8 (by decide) ?_
    obtain ⟨rfl, rfl⟩ := zs2 hm
    exact z_iret X hI d_Model_ofRun_9
set_option maxHeartbeats 4000000 in
set_option maxRecDepth 100000 in
theorem c_Model_ofRun (l : Launch) (G : zG) (K : Nat) (a0 : Nat) (x1 : Int32) (x2 : Int32) (h : zH) (r : Int32) (h' : zH) (hm : m_Model_ofRun a0 x1 x2 h = some (r, h')) : zMi l G K y_Model_ofRun prog_9_method_43_code 5 2 [.ref (G.1 a0), .int x1, .int x2] h r h' := zMet (by decide +kernel) (Nat.le_of_ble_eq_true rfl) (fun p e s m below meth c ls X hI hl => r_Model_ofRun_0 X a0 x1 x2 h hm hI hl)
