-- walk of AllHomeModel.inLine
theorem d_Model_inLine_0 : decode prog_9_method_10_code 0 = .ok (.iconst 0, 1) := by decide +kernel
theorem d_Model_inLine_1 : decode prog_9_method_10_code 1 = .ok (.istore 4, 2) := by decide +kernel
theorem d_Model_inLine_3 : decode prog_9_method_10_code 3 = .ok (.iconst 0, 1) := by decide +kernel
theorem d_Model_inLine_4 : decode prog_9_method_10_code 4 = .ok (.istore 5, 2) := by decide +kernel
theorem d_Model_inLine_6 : decode prog_9_method_10_code 6 = .ok (.iconst 0, 1) := by decide +kernel
theorem d_Model_inLine_7 : decode prog_9_method_10_code 7 = .ok (.istore 6, 2) := by decide +kernel
theorem d_Model_inLine_9 : decode prog_9_method_10_code 9 = .ok (.iconst 1, 1) := by decide +kernel
theorem d_Model_inLine_10 : decode prog_9_method_10_code 10 = .ok (.istore 7, 2) := by decide +kernel
theorem d_Model_inLine_12 : decode prog_9_method_10_code 12 = .ok (.iconst 0, 1) := by decide +kernel
theorem d_Model_inLine_13 : decode prog_9_method_10_code 13 = .ok (.istore 8, 2) := by decide +kernel
theorem d_Model_inLine_15 : decode prog_9_method_10_code 15 = .ok (.iload 8, 2) := by decide +kernel
theorem d_Model_inLine_17 : decode prog_9_method_10_code 17 = .ok (.aload_n 0, 1) := by decide +kernel
theorem d_Model_inLine_18 : decode prog_9_method_10_code 18 = .ok (.getfield 16, 3) := by decide +kernel
theorem d_Model_inLine_21 : decode prog_9_method_10_code 21 = .ok (.iload_n 1, 1) := by decide +kernel
theorem d_Model_inLine_22 : decode prog_9_method_10_code 22 = .ok (.iaload, 1) := by decide +kernel
theorem d_Model_inLine_23 : decode prog_9_method_10_code 23 = .ok (.if_icmp .ge 98, 3) := by decide +kernel
theorem d_Model_inLine_26 : decode prog_9_method_10_code 26 = .ok (.aload_n 0, 1) := by decide +kernel
theorem d_Model_inLine_27 : decode prog_9_method_10_code 27 = .ok (.getfield 13, 3) := by decide +kernel
theorem d_Model_inLine_30 : decode prog_9_method_10_code 30 = .ok (.bipush 60, 2) := by decide +kernel
theorem d_Model_inLine_32 : decode prog_9_method_10_code 32 = .ok (.iload_n 1, 1) := by decide +kernel
theorem d_Model_inLine_33 : decode prog_9_method_10_code 33 = .ok (.imul, 1) := by decide +kernel
theorem d_Model_inLine_34 : decode prog_9_method_10_code 34 = .ok (.iload 8, 2) := by decide +kernel
theorem d_Model_inLine_36 : decode prog_9_method_10_code 36 = .ok (.iadd, 1) := by decide +kernel
theorem d_Model_inLine_37 : decode prog_9_method_10_code 37 = .ok (.iaload, 1) := by decide +kernel
theorem d_Model_inLine_38 : decode prog_9_method_10_code 38 = .ok (.istore 9, 2) := by decide +kernel
theorem d_Model_inLine_40 : decode prog_9_method_10_code 40 = .ok (.iload 9, 2) := by decide +kernel
theorem d_Model_inLine_42 : decode prog_9_method_10_code 42 = .ok (.bipush 59, 2) := by decide +kernel
theorem d_Model_inLine_44 : decode prog_9_method_10_code 44 = .ok (.if_icmp .ne 9, 3) := by decide +kernel
theorem d_Model_inLine_47 : decode prog_9_method_10_code 47 = .ok (.iinc 5 1, 3) := by decide +kernel
theorem d_Model_inLine_50 : decode prog_9_method_10_code 50 = .ok (.goto 65, 3) := by decide +kernel
theorem d_Model_inLine_53 : decode prog_9_method_10_code 53 = .ok (.iload 9, 2) := by decide +kernel
theorem d_Model_inLine_55 : decode prog_9_method_10_code 55 = .ok (.i2l, 1) := by decide +kernel
theorem d_Model_inLine_56 : decode prog_9_method_10_code 56 = .ok (.ldc2_w 98, 3) := by decide +kernel
theorem d_Model_inLine_59 : decode prog_9_method_10_code 59 = .ok (.ldc2_w 100, 3) := by decide +kernel
theorem d_Model_inLine_62 : decode prog_9_method_10_code 62 = .ok (.invokestatic 87, 3) := by decide +kernel
theorem d_Model_inLine_65 : decode prog_9_method_10_code 65 = .ok (.ifCond .eq 13, 3) := by decide +kernel
theorem d_Model_inLine_68 : decode prog_9_method_10_code 68 = .ok (.iload 9, 2) := by decide +kernel
theorem d_Model_inLine_70 : decode prog_9_method_10_code 70 = .ok (.bipush 48, 2) := by decide +kernel
theorem d_Model_inLine_72 : decode prog_9_method_10_code 72 = .ok (.isub, 1) := by decide +kernel
theorem d_Model_inLine_73 : decode prog_9_method_10_code 73 = .ok (.istore 7, 2) := by decide +kernel
theorem d_Model_inLine_75 : decode prog_9_method_10_code 75 = .ok (.goto 40, 3) := by decide +kernel
theorem d_Model_inLine_78 : decode prog_9_method_10_code 78 = .ok (.iload 5, 2) := by decide +kernel
theorem d_Model_inLine_80 : decode prog_9_method_10_code 80 = .ok (.iload_n 2, 1) := by decide +kernel
theorem d_Model_inLine_81 : decode prog_9_method_10_code 81 = .ok (.if_icmp .ne 31, 3) := by decide +kernel
theorem d_Model_inLine_84 : decode prog_9_method_10_code 84 = .ok (.iload_n 3, 1) := by decide +kernel
theorem d_Model_inLine_85 : decode prog_9_method_10_code 85 = .ok (.iload 6, 2) := by decide +kernel
theorem d_Model_inLine_87 : decode prog_9_method_10_code 87 = .ok (.if_icmp .lt 18, 3) := by decide +kernel
theorem d_Model_inLine_90 : decode prog_9_method_10_code 90 = .ok (.iload_n 3, 1) := by decide +kernel
theorem d_Model_inLine_91 : decode prog_9_method_10_code 91 = .ok (.iload 6, 2) := by decide +kernel
theorem d_Model_inLine_93 : decode prog_9_method_10_code 93 = .ok (.iload 7, 2) := by decide +kernel
theorem d_Model_inLine_95 : decode prog_9_method_10_code 95 = .ok (.iadd, 1) := by decide +kernel
theorem d_Model_inLine_96 : decode prog_9_method_10_code 96 = .ok (.if_icmp .ge 9, 3) := by decide +kernel
theorem d_Model_inLine_99 : decode prog_9_method_10_code 99 = .ok (.iload 9, 2) := by decide +kernel
theorem d_Model_inLine_101 : decode prog_9_method_10_code 101 = .ok (.bipush 97, 2) := by decide +kernel
theorem d_Model_inLine_103 : decode prog_9_method_10_code 103 = .ok (.isub, 1) := by decide +kernel
theorem d_Model_inLine_104 : decode prog_9_method_10_code 104 = .ok (.ireturn, 1) := by decide +kernel
theorem d_Model_inLine_105 : decode prog_9_method_10_code 105 = .ok (.iload 6, 2) := by decide +kernel
theorem d_Model_inLine_107 : decode prog_9_method_10_code 107 = .ok (.iload 7, 2) := by decide +kernel
theorem d_Model_inLine_109 : decode prog_9_method_10_code 109 = .ok (.iadd, 1) := by decide +kernel
theorem d_Model_inLine_110 : decode prog_9_method_10_code 110 = .ok (.istore 6, 2) := by decide +kernel
theorem d_Model_inLine_112 : decode prog_9_method_10_code 112 = .ok (.iconst 1, 1) := by decide +kernel
theorem d_Model_inLine_113 : decode prog_9_method_10_code 113 = .ok (.istore 7, 2) := by decide +kernel
theorem d_Model_inLine_115 : decode prog_9_method_10_code 115 = .ok (.iinc 8 1, 3) := by decide +kernel
theorem d_Model_inLine_118 : decode prog_9_method_10_code 118 = .ok (.goto (-103), 3) := by decide +kernel
theorem d_Model_inLine_121 : decode prog_9_method_10_code 121 = .ok (.iload_n 3, 1) := by decide +kernel
theorem d_Model_inLine_122 : decode prog_9_method_10_code 122 = .ok (.ifCond .ge 8, 3) := by decide +kernel
theorem d_Model_inLine_125 : decode prog_9_method_10_code 125 = .ok (.iload 6, 2) := by decide +kernel
theorem d_Model_inLine_127 : decode prog_9_method_10_code 127 = .ok (.goto 4, 3) := by decide +kernel
theorem d_Model_inLine_130 : decode prog_9_method_10_code 130 = .ok (.iconst (-1), 1) := by decide +kernel
theorem d_Model_inLine_131 : decode prog_9_method_10_code 131 = .ok (.ireturn, 1) := by decide +kernel
set_option maxHeartbeats 4000000 in
set_option maxRecDepth 100000 in
theorem r_Model_inLine_15_b {p : Program} {l : Launch} {e : Env} {s : State} {m : MethodId} {args : Array Value} {below : List Frame} {meth : Method} {c : Code} {G : zG} {K : Nat} (X : zX p s m args meth c "AllHomeModel" prog_9_method_10_code 10 (some .int) G (zA G K)) {r : Int32} (a0 : Nat) (x1 : Int32) (x2 : Int32) (x3 : Int32) (h : zH) (k15 : (Int32 × Int32 × Int32 × Int32) → Option Int32) (hk15 : ∀ (w : Int32 × Int32 × Int32 × Int32), k15 w = some r → ∀ (H : Heap) (locs : List Loc) (ls : Array Slot), zI G K s (zA G K) H locs h → lv_has ls 10 [(0, .ref (G.1 a0)), (1, .int x1), (2, .int x2), (3, .int x3), (5, .int w.1), (6, .int w.2.1), (7, .int w.2.2.1), (8, .int w.2.2.2)] → W p l e (zR 1) s m args below meth c H locs 0 0 (MQ below (zQi G K r h) args s 0 0 (zA G K)) (F0 m 15 ls [])) (u : Int32 × Int32 × Int32 × Int32) (hm : g_Model_inLine_15 a0 x1 x2 x3 h k15 u = some r) {H : Heap} {locs : List Loc} {ls : Array Slot} (hI : zI G K s (zA G K) H locs h) (hl : lv_has ls 10 [(0, .ref (G.1 a0)), (1, .int x1), (2, .int x2), (3, .int x3), (5, .int u.1), (6, .int u.2.1), (7, .int u.2.2.1), (8, .int u.2.2.2)]) : W p l e (zR 1) s m args below meth c H locs 0 0 (MQ below (zQi G K r h) args s 0 0 (zA G K)) (F0 m 15 ls []) := by
  obtain ⟨hx, hb, hml, hown, hts, hr, hlocks, hK, hST, hNs⟩ := id X
  unfold g_Model_inLine_15 at hm
  refine lv_iload hx hb d_Model_inLine_15 (lv_at hl 7 rfl) ?_
  refine lv_aload_n hx hb d_Model_inLine_17 rfl (lv_at hl 0 rfl) ?_
  obtain ⟨v18, hv, hm⟩ := zbd hm
  refine z_getR X hI F_Model_16 hv d_Model_inLine_18 ?_
  refine lv_iload_n hx hb d_Model_inLine_21 rfl (lv_at hl 1 rfl) ?_
  obtain ⟨v22, hv, hm⟩ := zbd hm
  refine z_iald X hI hv d_Model_inLine_22 ?_
  refine lv_icmp_ge (tgt := 121) hx hb d_Model_inLine_23 (by decide) (fun hc23 => ?_) (fun hc23 => ?_)
  · replace hm := zif_t hc23 hm
    refine lv_iload_n hx hb d_Model_inLine_121 rfl (lv_at hl 3 rfl) ?_
    refine lv_if_ge (tgt := 130) hx hb d_Model_inLine_122 (by decide) (fun hc122 => ?_) (fun hc122 => ?_)
    · replace hm := zif_t hc122 hm
      refine lv_iconst (v := (-1 : Int32)) hx hb d_Model_inLine_130 (by decide) ?_
      obtain rfl := zs1 hm
      exact z_iret X hI d_Model_inLine_131
    · replace hm := zif_f hc122 hm
      refine lv_iload hx hb d_Model_inLine_125 (lv_at hl 5 rfl) ?_
      refine lv_goto (tgt := 131) hx hb d_Model_inLine_127 (by decide) ?_
      obtain rfl := zs1 hm
      exact z_iret X hI d_Model_inLine_131
  · replace hm := zif_f hc23 hm
    refine lv_aload_n hx hb d_Model_inLine_26 rfl (lv_at hl 0 rfl) ?_
    obtain ⟨v27, hv, hm⟩ := zbd hm
    refine z_getR X hI F_Model_13 hv d_Model_inLine_27 ?_
    refine lv_bipush (v := (nI 60)) hx hb d_Model_inLine_30 (by decide) ?_
    refine lv_iload_n hx hb d_Model_inLine_32 rfl (lv_at hl 1 rfl) ?_
    refine lv_imul hx hb d_Model_inLine_33 ?_
    refine lv_iload hx hb d_Model_inLine_34 (lv_at hl 7 rfl) ?_
    refine lv_iadd hx hb d_Model_inLine_36 ?_
    obtain ⟨v37, hv, hm⟩ := zbd hm
    refine z_iald X hI hv d_Model_inLine_37 ?_
    refine lv_istore (lv' := [(9, .int v37), (0, .ref (G.1 a0)), (1, .int x1), (2, .int x2), (3, .int x3), (5, .int u.1), (6, .int u.2.1), (7, .int u.2.2.1), (8, .int u.2.2.2)]) hx hb d_Model_inLine_38 hl (by decide) rfl (fun ls hl => ?_)
    refine lv_iload hx hb d_Model_inLine_40 (lv_at hl 0 rfl) ?_
    refine lv_bipush (v := (nI 59)) hx hb d_Model_inLine_42 (by decide) ?_
    refine lv_icmp_ne (tgt := 53) hx hb d_Model_inLine_44 (by decide) (fun hc44 => ?_) (fun hc44 => ?_)
    · replace hm := zif_f hc44 hm
      refine lv_iload hx hb d_Model_inLine_53 (lv_at hl 0 rfl) ?_
      refine lv_i2l hx hb d_Model_inLine_55 rfl ?_
      refine lv_ldc2 hx hb hown (hts _ kw789) d_Model_inLine_56 ?_
      refine lv_ldc2 hx hb hown (hts _ kw790) d_Model_inLine_59 ?_
      obtain ⟨v62, hv, hm⟩ := zbd hm
      refine z_ci hI (z_runS (As := [.long v37.toInt64, .long (50 : Int64), .long (57 : Int64)]) (rest := []) X hI hl.1 (c_Model_within l G K v37.toInt64 (50 : Int64) (57 : Int64) h _ hv) C_Model_87 rfl (Nat.le_of_ble_eq_true rfl) ⟨Nat.le_of_ble_eq_true rfl, Nat.le_of_ble_eq_true rfl, Nat.zero_le _, Nat.zero_le _⟩ rfl d_Model_inLine_62) (fun H locs hI => ?_)
      refine lv_if_eq (tgt := 78) hx hb d_Model_inLine_65 (by decide) (fun hc65 => ?_) (fun hc65 => ?_)
      · replace hm := zif_t hc65 hm
        refine lv_iload hx hb d_Model_inLine_78 (lv_at hl 5 rfl) ?_
        refine lv_iload_n hx hb d_Model_inLine_80 rfl (lv_at hl 3 rfl) ?_
        refine lv_icmp_ne (tgt := 112) hx hb d_Model_inLine_81 (by decide) (fun hc81 => ?_) (fun hc81 => ?_)
        · replace hm := zif_f hc81 hm
          refine lv_iconst (v := (nI 1)) hx hb d_Model_inLine_112 (by decide) ?_
          refine lv_istore (lv' := [(7, .int (nI 1)), (9, .int v37), (0, .ref (G.1 a0)), (1, .int x1), (2, .int x2), (3, .int x3), (5, .int u.1), (6, .int u.2.1), (8, .int u.2.2.2)]) hx hb d_Model_inLine_113 hl (by decide) rfl (fun ls hl => ?_)
          refine lv_iinc (v := (u.2.2.2 + (nI 1))) (lv' := [(8, .int (u.2.2.2 + (nI 1))), (7, .int (nI 1)), (9, .int v37), (0, .ref (G.1 a0)), (1, .int x1), (2, .int x2), (3, .int x3), (5, .int u.1), (6, .int u.2.1)]) hx hb d_Model_inLine_115 hl (k := 8) rfl (congrArg (fun z => u.2.2.2 + z) (show Int32.ofInt (1) = (nI 1) by decide)) (by decide) rfl (fun ls hl => ?_)
          refine lv_goto (tgt := 15) hx hb d_Model_inLine_118 (by decide) ?_
          obtain ⟨g0, e0⟩ : ∃ z, z = u.1 := ⟨_, rfl⟩
          rw [← e0] at hm hl
          obtain ⟨g1, e1⟩ : ∃ z, z = u.2.1 := ⟨_, rfl⟩
          rw [← e1] at hm hl
          obtain ⟨g3, e3⟩ : ∃ z, z = (u.2.2.2 + (nI 1)) := ⟨_, rfl⟩
          rw [← e3] at hm hl
          exact hk15 (g0, g1, (nI 1), g3) hm _ _ _ hI (lv_sub hl [3, 4, 5, 6, 7, 8, 1, 0] rfl)
        · replace hm := zif_t hc81 hm
          refine lv_iload_n hx hb d_Model_inLine_84 rfl (lv_at hl 4 rfl) ?_
          refine lv_iload hx hb d_Model_inLine_85 (lv_at hl 6 rfl) ?_
          refine lv_icmp_lt (tgt := 105) hx hb d_Model_inLine_87 (by decide) (fun hc87 => ?_) (fun hc87 => ?_)
          · replace hm := zif_t hc87 hm
            refine lv_iload hx hb d_Model_inLine_105 (lv_at hl 6 rfl) ?_
            refine lv_iload hx hb d_Model_inLine_107 (lv_at hl 7 rfl) ?_
            refine lv_iadd hx hb d_Model_inLine_109 ?_
            refine lv_istore (lv' := [(6, .int (u.2.1 + u.2.2.1)), (9, .int v37), (0, .ref (G.1 a0)), (1, .int x1), (2, .int x2), (3, .int x3), (5, .int u.1), (7, .int u.2.2.1), (8, .int u.2.2.2)]) hx hb d_Model_inLine_110 hl (by decide) rfl (fun ls hl => ?_)
            refine lv_iconst (v := (nI 1)) hx hb d_Model_inLine_112 (by decide) ?_
            refine lv_istore (lv' := [(7, .int (nI 1)), (6, .int (u.2.1 + u.2.2.1)), (9, .int v37), (0, .ref (G.1 a0)), (1, .int x1), (2, .int x2), (3, .int x3), (5, .int u.1), (8, .int u.2.2.2)]) hx hb d_Model_inLine_113 hl (by decide) rfl (fun ls hl => ?_)
            refine lv_iinc (v := (u.2.2.2 + (nI 1))) (lv' := [(8, .int (u.2.2.2 + (nI 1))), (7, .int (nI 1)), (6, .int (u.2.1 + u.2.2.1)), (9, .int v37), (0, .ref (G.1 a0)), (1, .int x1), (2, .int x2), (3, .int x3), (5, .int u.1)]) hx hb d_Model_inLine_115 hl (k := 8) rfl (congrArg (fun z => u.2.2.2 + z) (show Int32.ofInt (1) = (nI 1) by decide)) (by decide) rfl (fun ls hl => ?_)
            refine lv_goto (tgt := 15) hx hb d_Model_inLine_118 (by decide) ?_
            obtain ⟨g0, e0⟩ : ∃ z, z = u.1 := ⟨_, rfl⟩
            rw [← e0] at hm hl
            obtain ⟨g1, e1⟩ : ∃ z, z = (u.2.1 + u.2.2.1) := ⟨_, rfl⟩
            rw [← e1] at hm hl
            obtain ⟨g3, e3⟩ : ∃ z, z = (u.2.2.2 + (nI 1)) := ⟨_, rfl⟩
            rw [← e3] at hm hl
            exact hk15 (g0, g1, (nI 1), g3) hm _ _ _ hI (lv_sub hl [4, 5, 6, 7, 8, 2, 1, 0] rfl)
          · replace hm := zif_f hc87 hm
            refine lv_iload_n hx hb d_Model_inLine_90 rfl (lv_at hl 4 rfl) ?_
            refine lv_iload hx hb d_Model_inLine_91 (lv_at hl 6 rfl) ?_
            refine lv_iload hx hb d_Model_inLine_93 (lv_at hl 7 rfl) ?_
            refine lv_iadd hx hb d_Model_inLine_95 ?_
            refine lv_icmp_ge (tgt := 105) hx hb d_Model_inLine_96 (by decide) (fun hc96 => ?_) (fun hc96 => ?_)
            · replace hm := zif_t hc96 hm
              refine lv_iload hx hb d_Model_inLine_105 (lv_at hl 6 rfl) ?_
              refine lv_iload hx hb d_Model_inLine_107 (lv_at hl 7 rfl) ?_
              refine lv_iadd hx hb d_Model_inLine_109 ?_
              refine lv_istore (lv' := [(6, .int (u.2.1 + u.2.2.1)), (9, .int v37), (0, .ref (G.1 a0)), (1, .int x1), (2, .int x2), (3, .int x3), (5, .int u.1), (7, .int u.2.2.1), (8, .int u.2.2.2)]) hx hb d_Model_inLine_110 hl (by decide) rfl (fun ls hl => ?_)
              refine lv_iconst (v := (nI 1)) hx hb d_Model_inLine_112 (by decide) ?_
              refine lv_istore (lv' := [(7, .int (nI 1)), (6, .int (u.2.1 + u.2.2.1)), (9, .int v37), (0, .ref (G.1 a0)), (1, .int x1), (2, .int x2), (3, .int x3), (5, .int u.1), (8, .int u.2.2.2)]) hx hb d_Model_inLine_113 hl (by decide) rfl (fun ls hl => ?_)
              refine lv_iinc (v := (u.2.2.2 + (nI 1))) (lv' := [(8, .int (u.2.2.2 + (nI 1))), (7, .int (nI 1)), (6, .int (u.2.1 + u.2.2.1)), (9, .int v37), (0, .ref (G.1 a0)), (1, .int x1), (2, .int x2), (3, .int x3), (5, .int u.1)]) hx hb d_Model_inLine_115 hl (k := 8) rfl (congrArg (fun z => u.2.2.2 + z) (show Int32.ofInt (1) = (nI 1) by decide)) (by decide) rfl (fun ls hl => ?_)
              refine lv_goto (tgt := 15) hx hb d_Model_inLine_118 (by decide) ?_
              obtain ⟨g0, e0⟩ : ∃ z, z = u.1 := ⟨_, rfl⟩
              rw [← e0] at hm hl
              obtain ⟨g1, e1⟩ : ∃ z, z = (u.2.1 + u.2.2.1) := ⟨_, rfl⟩
              rw [← e1] at hm hl
              obtain ⟨g3, e3⟩ : ∃ z, z = (u.2.2.2 + (nI 1)) := ⟨_, rfl⟩
              rw [← e3] at hm hl
              exact hk15 (g0, g1, (nI 1), g3) hm _ _ _ hI (lv_sub hl [4, 5, 6, 7, 8, 2, 1, 0] rfl)
            · replace hm := zif_f hc96 hm
              refine lv_iload hx hb d_Model_inLine_99 (lv_at hl 0 rfl) ?_
              refine lv_bipush (v := (nI 97)) hx hb d_Model_inLine_101 (by decide) ?_
              refine lv_isub hx hb d_Model_inLine_103 ?_
              obtain rfl := zs1 hm
              exact z_iret X hI d_Model_inLine_104
      · replace hm := zif_f hc65 hm
        refine lv_iload hx hb d_Model_inLine_68 (lv_at hl 0 rfl) ?_
        refine lv_bipush (v := (nI 48)) hx hb d_Model_inLine_70 (by decide) ?_
        refine lv_isub hx hb d_Model_inLine_72 ?_
        refine lv_istore (lv' := [(7, .int (v37 - (nI 48))), (9, .int v37), (0, .ref (G.1 a0)), (1, .int x1), (2, .int x2), (3, .int x3), (5, .int u.1), (6, .int u.2.1), (8, .int u.2.2.2)]) hx hb d_Model_inLine_73 hl (by decide) rfl (fun ls hl => ?_)
        refine lv_goto (tgt := 115) hx hb d_Model_inLine_75 (by decide) ?_
        refine lv_iinc (v := (u.2.2.2 + (nI 1))) (lv' := [(8, .int (u.2.2.2 + (nI 1))), (7, .int (v37 - (nI 48))), (9, .int v37), (0, .ref (G.1 a0)), (1, .int x1), (2, .int x2), (3, .int x3), (5, .int u.1), (6, .int u.2.1)]) hx hb d_Model_inLine_115 hl (k := 8) rfl (congrArg (fun z => u.2.2.2 + z) (show Int32.ofInt (1) = (nI 1) by decide)) (by decide) rfl (fun ls hl => ?_)
        refine lv_goto (tgt := 15) hx hb d_Model_inLine_118 (by decide) ?_
        obtain ⟨g0, e0⟩ : ∃ z, z = u.1 := ⟨_, rfl⟩
        rw [← e0] at hm hl
        obtain ⟨g1, e1⟩ : ∃ z, z = u.2.1 := ⟨_, rfl⟩
        rw [← e1] at hm hl
        obtain ⟨g2, e2⟩ : ∃ z, z = (v37 - (nI 48)) := ⟨_, rfl⟩
        rw [← e2] at hm hl
        obtain ⟨g3, e3⟩ : ∃ z, z = (u.2.2.2 + (nI 1)) := ⟨_, rfl⟩
        rw [← e3] at hm hl
        exact hk15 (g0, g1, g2, g3) hm _ _ _ hI (lv_sub hl [3, 4, 5, 6, 7, 8, 1, 0] rfl)
    · replace hm := zif_t hc44 hm
      refine lv_iinc (v := (u.1 + (nI 1))) (lv' := [(5, .int (u.1 + (nI 1))), (9, .int v37), (0, .ref (G.1 a0)), (1, .int x1), (2, .int x2), (3, .int x3), (6, .int u.2.1), (7, .int u.2.2.1), (8, .int u.2.2.2)]) hx hb d_Model_inLine_47 hl (k := 5) rfl (congrArg (fun z => u.1 + z) (show Int32.ofInt (1) = (nI 1) by decide)) (by decide) rfl (fun ls hl => ?_)
      refine lv_goto (tgt := 115) hx hb d_Model_inLine_50 (by decide) ?_
      refine lv_iinc (v := (u.2.2.2 + (nI 1))) (lv' := [(8, .int (u.2.2.2 + (nI 1))), (5, .int (u.1 + (nI 1))), (9, .int v37), (0, .ref (G.1 a0)), (1, .int x1), (2, .int x2), (3, .int x3), (6, .int u.2.1), (7, .int u.2.2.1)]) hx hb d_Model_inLine_115 hl (k := 8) rfl (congrArg (fun z => u.2.2.2 + z) (show Int32.ofInt (1) = (nI 1) by decide)) (by decide) rfl (fun ls hl => ?_)
      refine lv_goto (tgt := 15) hx hb d_Model_inLine_118 (by decide) ?_
      obtain ⟨g0, e0⟩ : ∃ z, z = (u.1 + (nI 1)) := ⟨_, rfl⟩
      rw [← e0] at hm hl
      obtain ⟨g1, e1⟩ : ∃ z, z = u.2.1 := ⟨_, rfl⟩
      rw [← e1] at hm hl
      obtain ⟨g2, e2⟩ : ∃ z, z = u.2.2.1 := ⟨_, rfl⟩
      rw [← e2] at hm hl
      obtain ⟨g3, e3⟩ : ∃ z, z = (u.2.2.2 + (nI 1)) := ⟨_, rfl⟩
      rw [← e3] at hm hl
      exact hk15 (g0, g1, g2, g3) hm _ _ _ hI (lv_sub hl [3, 4, 5, 6, 1, 7, 8, 0] rfl)
theorem r_Model_inLine_15 {p : Program} {l : Launch} {e : Env} {s : State} {m : MethodId} {args : Array Value} {below : List Frame} {meth : Method} {c : Code} {G : zG} {K : Nat} (X : zX p s m args meth c "AllHomeModel" prog_9_method_10_code 10 (some .int) G (zA G K)) {r : Int32} (a0 : Nat) (x1 : Int32) (x2 : Int32) (x3 : Int32) (h : zH) : ∀ (n : Nat) (w : Int32 × Int32 × Int32 × Int32), zloop (g_Model_inLine_15 a0 x1 x2 x3 h) n w = some r → ∀ (H : Heap) (locs : List Loc) (ls : Array Slot), zI G K s (zA G K) H locs h → lv_has ls 10 [(0, .ref (G.1 a0)), (1, .int x1), (2, .int x2), (3, .int x3), (5, .int w.1), (6, .int w.2.1), (7, .int w.2.2.1), (8, .int w.2.2.2)] → W p l e (zR 1) s m args below meth c H locs 0 0 (MQ below (zQi G K r h) args s 0 0 (zA G K)) (F0 m 15 ls []) := by
  intro n
  induction n with
  | zero => intro w hm; cases hm
  | succ n ih => intro w hm H locs ls hI hl; exact r_Model_inLine_15_b X a0 x1 x2 x3 h (zloop (g_Model_inLine_15 a0 x1 x2 x3 h) n) ih w (zls hm) hI hl
set_option maxHeartbeats 4000000 in
set_option maxRecDepth 100000 in
theorem r_Model_inLine_0 {p : Program} {l : Launch} {e : Env} {s : State} {m : MethodId} {args : Array Value} {below : List Frame} {meth : Method} {c : Code} {G : zG} {K : Nat} (X : zX p s m args meth c "AllHomeModel" prog_9_method_10_code 10 (some .int) G (zA G K)) {r : Int32} (a0 : Nat) (x1 : Int32) (x2 : Int32) (x3 : Int32) (h : zH) (hm : m_Model_inLine a0 x1 x2 x3 h = some r) {H : Heap} {locs : List Loc} {ls : Array Slot} (hI : zI G K s (zA G K) H locs h) (hl : lv_has ls 10 [(0, .ref (G.1 a0)), (1, .int x1), (2, .int x2), (3, .int x3)]) : W p l e (zR 1) s m args below meth c H locs 0 0 (MQ below (zQi G K r h) args s 0 0 (zA G K)) (F0 m 0 ls []) := by
  obtain ⟨hx, hb, hml, hown, hts, hr, hlocks, hK, hST, hNs⟩ := id X
  unfold m_Model_inLine at hm
  refine lv_iconst (v := (nI 0)) hx hb d_Model_inLine_0 (by decide) ?_
  refine lv_istore (lv' := [(4, .int (nI 0)), (0, .ref (G.1 a0)), (1, .int x1), (2, .int x2), (3, .int x3)]) hx hb d_Model_inLine_1 hl (by decide) rfl (fun ls hl => ?_)
  refine lv_iconst (v := (nI 0)) hx hb d_Model_inLine_3 (by decide) ?_
  refine lv_istore (lv' := [(5, .int (nI 0)), (4, .int (nI 0)), (0, .ref (G.1 a0)), (1, .int x1), (2, .int x2), (3, .int x3)]) hx hb d_Model_inLine_4 hl (by decide) rfl (fun ls hl => ?_)
  refine lv_iconst (v := (nI 0)) hx hb d_Model_inLine_6 (by decide) ?_
  refine lv_istore (lv' := [(6, .int (nI 0)), (5, .int (nI 0)), (4, .int (nI 0)), (0, .ref (G.1 a0)), (1, .int x1), (2, .int x2), (3, .int x3)]) hx hb d_Model_inLine_7 hl (by decide) rfl (fun ls hl => ?_)
  refine lv_iconst (v := (nI 1)) hx hb d_Model_inLine_9 (by decide) ?_
  refine lv_istore (lv' := [(7, .int (nI 1)), (6, .int (nI 0)), (5, .int (nI 0)), (4, .int (nI 0)), (0, .ref (G.1 a0)), (1, .int x1), (2, .int x2), (3, .int x3)]) hx hb d_Model_inLine_10 hl (by decide) rfl (fun ls hl => ?_)
  refine lv_iconst (v := (nI 0)) hx hb d_Model_inLine_12 (by decide) ?_
  refine lv_istore (lv' := [(8, .int (nI 0)), (7, .int (nI 1)), (6, .int (nI 0)), (5, .int (nI 0)), (4, .int (nI 0)), (0, .ref (G.1 a0)), (1, .int x1), (2, .int x2), (3, .int x3)]) hx hb d_Model_inLine_13 hl (by decide) rfl (fun ls hl => ?_)
  exact r_Model_inLine_15 X a0 x1 x2 x3 h zN ((nI 0), (nI 0), (nI 1), (nI 0)) hm _ _ _ hI (lv_sub hl [5, 6, 7, 8, 3, 2, 1, 0] rfl)
set_option maxHeartbeats 4000000 in
set_option maxRecDepth 100000 in
theorem c_Model_inLine (l : Launch) (G : zG) (K : Nat) (a0 : Nat) (x1 : Int32) (x2 : Int32) (x3 : Int32) (h : zH) (r : Int32) (hm : m_Model_inLine a0 x1 x2 x3 h = some r) : zMi l G K y_Model_inLine prog_9_method_10_code 10 1 [.ref (G.1 a0), .int x1, .int x2, .int x3] h r h := zMet (by decide +kernel) (Nat.le_of_ble_eq_true rfl) (fun p e s m below meth c ls X hI hl => r_Model_inLine_0 X a0 x1 x2 x3 h hm hI hl)
-- walk of AllHomeModel.line
theorem d_Model_line_0 : decode prog_9_method_11_code 0 = .ok (.aload_n 0, 1) := by decide +kernel
theorem d_Model_line_1 : decode prog_9_method_11_code 1 = .ok (.iload_n 1, 1) := by decide +kernel
theorem d_Model_line_2 : decode prog_9_method_11_code 2 = .ok (.invokevirtual 113, 3) := by decide +kernel
theorem d_Model_line_5 : decode prog_9_method_11_code 5 = .ok (.ifCond .eq 34, 3) := by decide +kernel
theorem d_Model_line_8 : decode prog_9_method_11_code 8 = .ok (.iload_n 2, 1) := by decide +kernel
theorem d_Model_line_9 : decode prog_9_method_11_code 9 = .ok (.i2l, 1) := by decide +kernel
theorem d_Model_line_10 : decode prog_9_method_11_code 10 = .ok (.ldc2_w 117, 3) := by decide +kernel
theorem d_Model_line_13 : decode prog_9_method_11_code 13 = .ok (.aload_n 0, 1) := by decide +kernel
theorem d_Model_line_14 : decode prog_9_method_11_code 14 = .ok (.aload_n 0, 1) := by decide +kernel
theorem d_Model_line_15 : decode prog_9_method_11_code 15 = .ok (.iload_n 1, 1) := by decide +kernel
theorem d_Model_line_16 : decode prog_9_method_11_code 16 = .ok (.invokevirtual 113, 3) := by decide +kernel
theorem d_Model_line_19 : decode prog_9_method_11_code 19 = .ok (.ifCond .eq 7, 3) := by decide +kernel
theorem d_Model_line_22 : decode prog_9_method_11_code 22 = .ok (.iload_n 1, 1) := by decide +kernel
theorem d_Model_line_23 : decode prog_9_method_11_code 23 = .ok (.goto 4, 3) := by decide +kernel
theorem d_Model_line_26 : decode prog_9_method_11_code 26 = .ok (.iconst 0, 1) := by decide +kernel
theorem d_Model_line_27 : decode prog_9_method_11_code 27 = .ok (.invokevirtual 119, 3) := by decide +kernel
theorem d_Model_line_30 : decode prog_9_method_11_code 30 = .ok (.iconst 1, 1) := by decide +kernel
theorem d_Model_line_31 : decode prog_9_method_11_code 31 = .ok (.isub, 1) := by decide +kernel
theorem d_Model_line_32 : decode prog_9_method_11_code 32 = .ok (.i2l, 1) := by decide +kernel
theorem d_Model_line_33 : decode prog_9_method_11_code 33 = .ok (.invokestatic 87, 3) := by decide +kernel
theorem d_Model_line_36 : decode prog_9_method_11_code 36 = .ok (.ifCond .ne 5, 3) := by decide +kernel
theorem d_Model_line_39 : decode prog_9_method_11_code 39 = .ok (.iconst (-1), 1) := by decide +kernel
theorem d_Model_line_40 : decode prog_9_method_11_code 40 = .ok (.ireturn, 1) := by decide +kernel
theorem d_Model_line_41 : decode prog_9_method_11_code 41 = .ok (.iload_n 2, 1) := by decide +kernel
theorem d_Model_line_42 : decode prog_9_method_11_code 42 = .ok (.ifCond .ge 11, 3) := by decide +kernel
theorem d_Model_line_45 : decode prog_9_method_11_code 45 = .ok (.aload_n 0, 1) := by decide +kernel
theorem d_Model_line_46 : decode prog_9_method_11_code 46 = .ok (.iload_n 1, 1) := by decide +kernel
theorem d_Model_line_47 : decode prog_9_method_11_code 47 = .ok (.invokevirtual 119, 3) := by decide +kernel
theorem d_Model_line_50 : decode prog_9_method_11_code 50 = .ok (.goto 10, 3) := by decide +kernel
theorem d_Model_line_53 : decode prog_9_method_11_code 53 = .ok (.aload_n 0, 1) := by decide +kernel
theorem d_Model_line_54 : decode prog_9_method_11_code 54 = .ok (.iload_n 1, 1) := by decide +kernel
theorem d_Model_line_55 : decode prog_9_method_11_code 55 = .ok (.iload_n 2, 1) := by decide +kernel
theorem d_Model_line_56 : decode prog_9_method_11_code 56 = .ok (.iconst (-1), 1) := by decide +kernel
theorem d_Model_line_57 : decode prog_9_method_11_code 57 = .ok (.invokevirtual 122, 3) := by decide +kernel
theorem d_Model_line_60 : decode prog_9_method_11_code 60 = .ok (.ireturn, 1) := by decide +kernel
set_option maxHeartbeats 4000000 in
set_option maxRecDepth 100000 in
theorem r_Model_line_27 {p : Program} {l : Launch} {e : Env} {s : State} {m : MethodId} {args : Array Value} {below : List Frame} {meth : Method} {c : Code} {G : zG} {K : Nat} (X : zX p s m args meth c "AllHomeModel" prog_9_method_11_code 3 (some .int) G (zA G K)) {r : Int32} (a0 : Nat) (x1 : Int32) (x2 : Int32) (y0 : Int64) (y1 : Int64) (c2 : Nat) (y3 : Int32) (h : zH) (hm : g_Model_line_27 a0 x1 x2 y0 y1 c2 y3 h = some r) {H : Heap} {locs : List Loc} {ls : Array Slot} (hI : zI G K s (zA G K) H locs h) (hl : lv_has ls 3 [(0, .ref (G.1 a0)), (1, .int x1), (2, .int x2)]) : W p l e (zR 2) s m args below meth c H locs 0 0 (MQ below (zQi G K r h) args s 0 0 (zA G K)) (F0 m 27 ls [.int y3, .ref (G.1 c2), .long y1, .long y0]) := by
  obtain ⟨hx, hb, hml, hown, hts, hr, hlocks, hK, hST, hNs⟩ := id X
  unfold g_Model_line_27 at hm
  obtain ⟨v27, hv, hm⟩ := zbd hm
  obtain ⟨hq, hv⟩ := zcv_at hv
  refine z_ci hI (z_runV (As := [.int y3]) (rest := [.long y1, .long y0]) X hI hl.1 (c_Model_lines l G K c2 y3 h _ hv) C_Model_119 rfl hq (Nat.le_of_ble_eq_true rfl) ⟨Nat.le_of_ble_eq_true rfl, Nat.le_of_ble_eq_true rfl, Nat.zero_le _, Nat.zero_le _⟩ rfl d_Model_line_27) (fun H locs hI => ?_)
  refine lv_iconst (v := (nI 1)) hx hb d_Model_line_30 (by decide) ?_
  refine lv_isub hx hb d_Model_line_31 ?_
  refine lv_i2l hx hb d_Model_line_32 rfl ?_
  obtain ⟨v33, hv, hm⟩ := zbd hm
  refine z_ci hI (z_runS (As := [.long y0, .long y1, .long (v27 - (nI 1)).toInt64]) (rest := []) X hI hl.1 (c_Model_within l G K y0 y1 (v27 - (nI 1)).toInt64 h _ hv) C_Model_87 rfl (Nat.le_of_ble_eq_true rfl) ⟨Nat.le_of_ble_eq_true rfl, Nat.le_of_ble_eq_true rfl, Nat.zero_le _, Nat.zero_le _⟩ rfl d_Model_line_33) (fun H locs hI => ?_)
  refine lv_if_ne (tgt := 41) hx hb d_Model_line_36 (by decide) (fun hc36 => ?_) (fun hc36 => ?_)
  · replace hm := zif_f hc36 hm
    refine lv_iload_n hx hb d_Model_line_41 rfl (lv_at hl 2 rfl) ?_
    refine lv_if_ge (tgt := 53) hx hb d_Model_line_42 (by decide) (fun hc42 => ?_) (fun hc42 => ?_)
    · replace hm := zif_t hc42 hm
      refine lv_aload_n hx hb d_Model_line_53 rfl (lv_at hl 0 rfl) ?_
      refine lv_iload_n hx hb d_Model_line_54 rfl (lv_at hl 1 rfl) ?_
      refine lv_iload_n hx hb d_Model_line_55 rfl (lv_at hl 2 rfl) ?_
      refine lv_iconst (v := (-1 : Int32)) hx hb d_Model_line_56 (by decide) ?_
      obtain ⟨v57, hv, hm⟩ := zbd hm
      obtain ⟨hq, hv⟩ := zcv_at hv
      refine z_ci hI (z_runV (As := [.int x1, .int x2, .int (-1 : Int32)]) (rest := []) X hI hl.1 (c_Model_inLine l G K a0 x1 x2 (-1 : Int32) h _ hv) C_Model_122 rfl hq (Nat.le_of_ble_eq_true rfl) ⟨Nat.le_of_ble_eq_true rfl, Nat.le_of_ble_eq_true rfl, Nat.zero_le _, Nat.zero_le _⟩ rfl d_Model_line_57) (fun H locs hI => ?_)
      obtain rfl := zs1 hm
      exact z_iret X hI d_Model_line_60
    · replace hm := zif_f hc42 hm
      refine lv_aload_n hx hb d_Model_line_45 rfl (lv_at hl 0 rfl) ?_
      refine lv_iload_n hx hb d_Model_line_46 rfl (lv_at hl 1 rfl) ?_
      obtain ⟨v47, hv, hm⟩ := zbd hm
      obtain ⟨hq, hv⟩ := zcv_at hv
      refine z_ci hI (z_runV (As := [.int x1]) (rest := []) X hI hl.1 (c_Model_lines l G K a0 x1 h _ hv) C_Model_119 rfl hq (Nat.le_of_ble_eq_true rfl) ⟨Nat.le_of_ble_eq_true rfl, Nat.le_of_ble_eq_true rfl, Nat.zero_le _, Nat.zero_le _⟩ rfl d_Model_line_47) (fun H locs hI => ?_)
      refine lv_goto (tgt := 60) hx hb d_Model_line_50 (by decide) ?_
      obtain rfl := zs1 hm
      exact z_iret X hI d_Model_line_60
  · replace hm := zif_t hc36 hm
    refine lv_iconst (v := (-1 : Int32)) hx hb d_Model_line_39 (by decide) ?_
    obtain rfl := zs1 hm
    exact z_iret X hI d_Model_line_40
set_option maxHeartbeats 4000000 in
set_option maxRecDepth 100000 in
theorem r_Model_line_0 {p : Program} {l : Launch} {e : Env} {s : State} {m : MethodId} {args : Array Value} {below : List Frame} {meth : Method} {c : Code} {G : zG} {K : Nat} (X : zX p s m args meth c "AllHomeModel" prog_9_method_11_code 3 (some .int) G (zA G K)) {r : Int32} (a0 : Nat) (x1 : Int32) (x2 : Int32) (h : zH) (hm : m_Model_line a0 x1 x2 h = some r) {H : Heap} {locs : List Loc} {ls : Array Slot} (hI : zI G K s (zA G K) H locs h) (hl : lv_has ls 3 [(0, .ref (G.1 a0)), (1, .int x1), (2, .int x2)]) : W p l e (zR 2) s m args below meth c H locs 0 0 (MQ below (zQi G K r h) args s 0 0 (zA G K)) (F0 m 0 ls []) := by
  obtain ⟨hx, hb, hml, hown, hts, hr, hlocks, hK, hST, hNs⟩ := id X
  unfold m_Model_line at hm
  refine lv_aload_n hx hb d_Model_line_0 rfl (lv_at hl 0 rfl) ?_
  refine lv_iload_n hx hb d_Model_line_1 rfl (lv_at hl 1 rfl) ?_
  obtain ⟨v2, hv, hm⟩ := zbd hm
  obtain ⟨hq, hv⟩ := zcv_at hv
  refine z_ci hI (z_runV (As := [.int x1]) (rest := []) X hI hl.1 (c_Model_isHut l G K a0 x1 h _ hv) C_Model_113 rfl hq (Nat.le_of_ble_eq_true rfl) ⟨Nat.le_of_ble_eq_true rfl, Nat.le_of_ble_eq_true rfl, Nat.zero_le _, Nat.zero_le _⟩ rfl d_Model_line_2) (fun H locs hI => ?_)
  refine lv_if_eq (tgt := 39) hx hb d_Model_line_5 (by decide) (fun hc5 => ?_) (fun hc5 => ?_)
  · replace hm := zif_t hc5 hm
    refine lv_iconst (v := (-1 : Int32)) hx hb d_Model_line_39 (by decide) ?_
    obtain rfl := zs1 hm
    exact z_iret X hI d_Model_line_40
  · replace hm := zif_f hc5 hm
    refine lv_iload_n hx hb d_Model_line_8 rfl (lv_at hl 2 rfl) ?_
    refine lv_i2l hx hb d_Model_line_9 rfl ?_
    refine lv_ldc2 hx hb hown (hts _ kw804) d_Model_line_10 ?_
    refine lv_aload_n hx hb d_Model_line_13 rfl (lv_at hl 0 rfl) ?_
    refine lv_aload_n hx hb d_Model_line_14 rfl (lv_at hl 0 rfl) ?_
    refine lv_iload_n hx hb d_Model_line_15 rfl (lv_at hl 1 rfl) ?_
    obtain ⟨v16, hv, hm⟩ := zbd hm
    obtain ⟨hq, hv⟩ := zcv_at hv
    refine z_ci hI (z_runV (As := [.int x1]) (rest := [.ref (G.1 a0), .long (-1 : Int64), .long x2.toInt64]) X hI hl.1 (c_Model_isHut l G K a0 x1 h _ hv) C_Model_113 rfl hq (Nat.le_of_ble_eq_true rfl) ⟨Nat.le_of_ble_eq_true rfl, Nat.le_of_ble_eq_true rfl, Nat.zero_le _, Nat.zero_le _⟩ rfl d_Model_line_16) (fun H locs hI => ?_)
    refine lv_if_eq (tgt := 26) hx hb d_Model_line_19 (by decide) (fun hc19 => ?_) (fun hc19 => ?_)
    · replace hm := zif_t hc19 hm
      refine lv_iconst (v := (nI 0)) hx hb d_Model_line_26 (by decide) ?_
      exact r_Model_line_27 X a0 x1 x2 x2.toInt64 (-1 : Int64) a0 (nI 0) h hm hI (lv_sub hl [0, 1, 2] rfl)
    · replace hm := zif_f hc19 hm
      refine lv_iload_n hx hb d_Model_line_22 rfl (lv_at hl 1 rfl) ?_
      refine lv_goto (tgt := 27) hx hb d_Model_line_23 (by decide) ?_
      exact r_Model_line_27 X a0 x1 x2 x2.toInt64 (-1 : Int64) a0 x1 h hm hI (lv_sub hl [0, 1, 2] rfl)
set_option maxHeartbeats 4000000 in
set_option maxRecDepth 100000 in
theorem c_Model_line (l : Launch) (G : zG) (K : Nat) (a0 : Nat) (x1 : Int32) (x2 : Int32) (h : zH) (r : Int32) (hm : m_Model_line a0 x1 x2 h = some r) : zMi l G K y_Model_line prog_9_method_11_code 3 2 [.ref (G.1 a0), .int x1, .int x2] h r h := zMet (by decide +kernel) (Nat.le_of_ble_eq_true rfl) (fun p e s m below meth c ls X hI hl => r_Model_line_0 X a0 x1 x2 h hm hI hl)
-- walk of AllHomeModel.goesTo
theorem d_Model_goesTo_0 : decode prog_9_method_12_code 0 = .ok (.aload_n 0, 1) := by decide +kernel
theorem d_Model_goesTo_1 : decode prog_9_method_12_code 1 = .ok (.iload_n 1, 1) := by decide +kernel
theorem d_Model_goesTo_2 : decode prog_9_method_12_code 2 = .ok (.invokevirtual 113, 3) := by decide +kernel
theorem d_Model_goesTo_5 : decode prog_9_method_12_code 5 = .ok (.ifCond .eq 36, 3) := by decide +kernel
theorem d_Model_goesTo_8 : decode prog_9_method_12_code 8 = .ok (.iload_n 2, 1) := by decide +kernel
theorem d_Model_goesTo_9 : decode prog_9_method_12_code 9 = .ok (.i2l, 1) := by decide +kernel
theorem d_Model_goesTo_10 : decode prog_9_method_12_code 10 = .ok (.lconst 0, 1) := by decide +kernel
theorem d_Model_goesTo_11 : decode prog_9_method_12_code 11 = .ok (.aload_n 0, 1) := by decide +kernel
theorem d_Model_goesTo_12 : decode prog_9_method_12_code 12 = .ok (.aload_n 0, 1) := by decide +kernel
theorem d_Model_goesTo_13 : decode prog_9_method_12_code 13 = .ok (.iload_n 1, 1) := by decide +kernel
theorem d_Model_goesTo_14 : decode prog_9_method_12_code 14 = .ok (.invokevirtual 113, 3) := by decide +kernel
theorem d_Model_goesTo_17 : decode prog_9_method_12_code 17 = .ok (.ifCond .eq 7, 3) := by decide +kernel
theorem d_Model_goesTo_20 : decode prog_9_method_12_code 20 = .ok (.iload_n 1, 1) := by decide +kernel
theorem d_Model_goesTo_21 : decode prog_9_method_12_code 21 = .ok (.goto 4, 3) := by decide +kernel
theorem d_Model_goesTo_24 : decode prog_9_method_12_code 24 = .ok (.iconst 0, 1) := by decide +kernel
theorem d_Model_goesTo_25 : decode prog_9_method_12_code 25 = .ok (.invokevirtual 119, 3) := by decide +kernel
theorem d_Model_goesTo_28 : decode prog_9_method_12_code 28 = .ok (.iconst 1, 1) := by decide +kernel
theorem d_Model_goesTo_29 : decode prog_9_method_12_code 29 = .ok (.isub, 1) := by decide +kernel
theorem d_Model_goesTo_30 : decode prog_9_method_12_code 30 = .ok (.i2l, 1) := by decide +kernel
theorem d_Model_goesTo_31 : decode prog_9_method_12_code 31 = .ok (.invokestatic 87, 3) := by decide +kernel
theorem d_Model_goesTo_34 : decode prog_9_method_12_code 34 = .ok (.ifCond .eq 7, 3) := by decide +kernel
theorem d_Model_goesTo_37 : decode prog_9_method_12_code 37 = .ok (.iload_n 3, 1) := by decide +kernel
theorem d_Model_goesTo_38 : decode prog_9_method_12_code 38 = .ok (.ifCond .ge 5, 3) := by decide +kernel
theorem d_Model_goesTo_41 : decode prog_9_method_12_code 41 = .ok (.iconst (-1), 1) := by decide +kernel
theorem d_Model_goesTo_42 : decode prog_9_method_12_code 42 = .ok (.ireturn, 1) := by decide +kernel
theorem d_Model_goesTo_43 : decode prog_9_method_12_code 43 = .ok (.aload_n 0, 1) := by decide +kernel
theorem d_Model_goesTo_44 : decode prog_9_method_12_code 44 = .ok (.iload_n 1, 1) := by decide +kernel
theorem d_Model_goesTo_45 : decode prog_9_method_12_code 45 = .ok (.iload_n 2, 1) := by decide +kernel
theorem d_Model_goesTo_46 : decode prog_9_method_12_code 46 = .ok (.iload_n 3, 1) := by decide +kernel
theorem d_Model_goesTo_47 : decode prog_9_method_12_code 47 = .ok (.invokevirtual 122, 3) := by decide +kernel
theorem d_Model_goesTo_50 : decode prog_9_method_12_code 50 = .ok (.ireturn, 1) := by decide +kernel
set_option maxHeartbeats 4000000 in
set_option maxRecDepth 100000 in
theorem r_Model_goesTo_25 {p : Program} {l : Launch} {e : Env} {s : State} {m : MethodId} {args : Array Value} {below : List Frame} {meth : Method} {c : Code} {G : zG} {K : Nat} (X : zX p s m args meth c "AllHomeModel" prog_9_method_12_code 4 (some .int) G (zA G K)) {r : Int32} (a0 : Nat) (x1 : Int32) (x2 : Int32) (x3 : Int32) (y0 : Int64) (y1 : Int64) (c2 : Nat) (y3 : Int32) (h : zH) (hm : g_Model_goesTo_25 a0 x1 x2 x3 y0 y1 c2 y3 h = some r) {H : Heap} {locs : List Loc} {ls : Array Slot} (hI : zI G K s (zA G K) H locs h) (hl : lv_has ls 4 [(0, .ref (G.1 a0)), (1, .int x1), (2, .int x2), (3, .int x3)]) : W p l e (zR 2) s m args below meth c H locs 0 0 (MQ below (zQi G K r h) args s 0 0 (zA G K)) (F0 m 25 ls [.int y3, .ref (G.1 c2), .long y1, .long y0]) := by
  obtain ⟨hx, hb, hml, hown, hts, hr, hlocks, hK, hST, hNs⟩ := id X
  unfold g_Model_goesTo_25 at hm
  obtain ⟨v25, hv, hm⟩ := zbd hm
  obtain ⟨hq, hv⟩ := zcv_at hv
  refine z_ci hI (z_runV (As := [.int y3]) (rest := [.long y1, .long y0]) X hI hl.1 (c_Model_lines l G K c2 y3 h _ hv) C_Model_119 rfl hq (Nat.le_of_ble_eq_true rfl) ⟨Nat.le_of_ble_eq_true rfl, Nat.le_of_ble_eq_true rfl, Nat.zero_le _, Nat.zero_le _⟩ rfl d_Model_goesTo_25) (fun H locs hI => ?_)
  refine lv_iconst (v := (nI 1)) hx hb d_Model_goesTo_28 (by decide) ?_
  refine lv_isub hx hb d_Model_goesTo_29 ?_
  refine lv_i2l hx hb d_Model_goesTo_30 rfl ?_
  obtain ⟨v31, hv, hm⟩ := zbd hm
  refine z_ci hI (z_runS (As := [.long y0, .long y1, .long (v25 - (nI 1)).toInt64]) (rest := []) X hI hl.1 (c_Model_within l G K y0 y1 (v25 - (nI 1)).toInt64 h _ hv) C_Model_87 rfl (Nat.le_of_ble_eq_true rfl) ⟨Nat.le_of_ble_eq_true rfl, Nat.le_of_ble_eq_true rfl, Nat.zero_le _, Nat.zero_le _⟩ rfl d_Model_goesTo_31) (fun H locs hI => ?_)
  refine lv_if_eq (tgt := 41) hx hb d_Model_goesTo_34 (by decide) (fun hc34 => ?_) (fun hc34 => ?_)
  · replace hm := zif_t hc34 hm
    refine lv_iconst (v := (-1 : Int32)) hx hb d_Model_goesTo_41 (by decide) ?_
    obtain rfl := zs1 hm
    exact z_iret X hI d_Model_goesTo_42
  · replace hm := zif_f hc34 hm
    refine lv_iload_n hx hb d_Model_goesTo_37 rfl (lv_at hl 3 rfl) ?_
    refine lv_if_ge (tgt := 43) hx hb d_Model_goesTo_38 (by decide) (fun hc38 => ?_) (fun hc38 => ?_)
    · replace hm := zif_t hc38 hm
      refine lv_aload_n hx hb d_Model_goesTo_43 rfl (lv_at hl 0 rfl) ?_
      refine lv_iload_n hx hb d_Model_goesTo_44 rfl (lv_at hl 1 rfl) ?_
      refine lv_iload_n hx hb d_Model_goesTo_45 rfl (lv_at hl 2 rfl) ?_
      refine lv_iload_n hx hb d_Model_goesTo_46 rfl (lv_at hl 3 rfl) ?_
      obtain ⟨v47, hv, hm⟩ := zbd hm
      obtain ⟨hq, hv⟩ := zcv_at hv
      refine z_ci hI (z_runV (As := [.int x1, .int x2, .int x3]) (rest := []) X hI hl.1 (c_Model_inLine l G K a0 x1 x2 x3 h _ hv) C_Model_122 rfl hq (Nat.le_of_ble_eq_true rfl) ⟨Nat.le_of_ble_eq_true rfl, Nat.le_of_ble_eq_true rfl, Nat.zero_le _, Nat.zero_le _⟩ rfl d_Model_goesTo_47) (fun H locs hI => ?_)
      obtain rfl := zs1 hm
      exact z_iret X hI d_Model_goesTo_50
    · replace hm := zif_f hc38 hm
      refine lv_iconst (v := (-1 : Int32)) hx hb d_Model_goesTo_41 (by decide) ?_
      obtain rfl := zs1 hm
      exact z_iret X hI d_Model_goesTo_42
set_option maxHeartbeats 4000000 in
set_option maxRecDepth 100000 in
theorem r_Model_goesTo_0 {p : Program} {l : Launch} {e : Env} {s : State} {m : MethodId} {args : Array Value} {below : List Frame} {meth : Method} {c : Code} {G : zG} {K : Nat} (X : zX p s m args meth c "AllHomeModel" prog_9_method_12_code 4 (some .int) G (zA G K)) {r : Int32} (a0 : Nat) (x1 : Int32) (x2 : Int32) (x3 : Int32) (h : zH) (hm : m_Model_goesTo a0 x1 x2 x3 h = some r) {H : Heap} {locs : List Loc} {ls : Array Slot} (hI : zI G K s (zA G K) H locs h) (hl : lv_has ls 4 [(0, .ref (G.1 a0)), (1, .int x1), (2, .int x2), (3, .int x3)]) : W p l e (zR 2) s m args below meth c H locs 0 0 (MQ below (zQi G K r h) args s 0 0 (zA G K)) (F0 m 0 ls []) := by
  obtain ⟨hx, hb, hml, hown, hts, hr, hlocks, hK, hST, hNs⟩ := id X
  unfold m_Model_goesTo at hm
  refine lv_aload_n hx hb d_Model_goesTo_0 rfl (lv_at hl 0 rfl) ?_
  refine lv_iload_n hx hb d_Model_goesTo_1 rfl (lv_at hl 1 rfl) ?_
  obtain ⟨v2, hv, hm⟩ := zbd hm
  obtain ⟨hq, hv⟩ := zcv_at hv
  refine z_ci hI (z_runV (As := [.int x1]) (rest := []) X hI hl.1 (c_Model_isHut l G K a0 x1 h _ hv) C_Model_113 rfl hq (Nat.le_of_ble_eq_true rfl) ⟨Nat.le_of_ble_eq_true rfl, Nat.le_of_ble_eq_true rfl, Nat.zero_le _, Nat.zero_le _⟩ rfl d_Model_goesTo_2) (fun H locs hI => ?_)
  refine lv_if_eq (tgt := 41) hx hb d_Model_goesTo_5 (by decide) (fun hc5 => ?_) (fun hc5 => ?_)
  · replace hm := zif_t hc5 hm
    refine lv_iconst (v := (-1 : Int32)) hx hb d_Model_goesTo_41 (by decide) ?_
    obtain rfl := zs1 hm
    exact z_iret X hI d_Model_goesTo_42
  · replace hm := zif_f hc5 hm
    refine lv_iload_n hx hb d_Model_goesTo_8 rfl (lv_at hl 2 rfl) ?_
    refine lv_i2l hx hb d_Model_goesTo_9 rfl ?_
    refine lv_lconst (v := 0) hx hb d_Model_goesTo_10 (by decide) ?_
    refine lv_aload_n hx hb d_Model_goesTo_11 rfl (lv_at hl 0 rfl) ?_
    refine lv_aload_n hx hb d_Model_goesTo_12 rfl (lv_at hl 0 rfl) ?_
    refine lv_iload_n hx hb d_Model_goesTo_13 rfl (lv_at hl 1 rfl) ?_
    obtain ⟨v14, hv, hm⟩ := zbd hm
    obtain ⟨hq, hv⟩ := zcv_at hv
    refine z_ci hI (z_runV (As := [.int x1]) (rest := [.ref (G.1 a0), .long (0 : Int64), .long x2.toInt64]) X hI hl.1 (c_Model_isHut l G K a0 x1 h _ hv) C_Model_113 rfl hq (Nat.le_of_ble_eq_true rfl) ⟨Nat.le_of_ble_eq_true rfl, Nat.le_of_ble_eq_true rfl, Nat.zero_le _, Nat.zero_le _⟩ rfl d_Model_goesTo_14) (fun H locs hI => ?_)
    refine lv_if_eq (tgt := 24) hx hb d_Model_goesTo_17 (by decide) (fun hc17 => ?_) (fun hc17 => ?_)
    · replace hm := zif_t hc17 hm
      refine lv_iconst (v := (nI 0)) hx hb d_Model_goesTo_24 (by decide) ?_
      exact r_Model_goesTo_25 X a0 x1 x2 x3 x2.toInt64 (0 : Int64) a0 (nI 0) h hm hI (lv_sub hl [0, 1, 2, 3] rfl)
    · replace hm := zif_f hc17 hm
      refine lv_iload_n hx hb d_Model_goesTo_20 rfl (lv_at hl 1 rfl) ?_
      refine lv_goto (tgt := 25) hx hb d_Model_goesTo_21 (by decide) ?_
      exact r_Model_goesTo_25 X a0 x1 x2 x3 x2.toInt64 (0 : Int64) a0 x1 h hm hI (lv_sub hl [0, 1, 2, 3] rfl)
set_option maxHeartbeats 4000000 in
set_option maxRecDepth 100000 in
theorem c_Model_goesTo (l : Launch) (G : zG) (K : Nat) (a0 : Nat) (x1 : Int32) (x2 : Int32) (x3 : Int32) (h : zH) (r : Int32) (hm : m_Model_goesTo a0 x1 x2 x3 h = some r) : zMi l G K y_Model_goesTo prog_9_method_12_code 4 2 [.ref (G.1 a0), .int x1, .int x2, .int x3] h r h := zMet (by decide +kernel) (Nat.le_of_ble_eq_true rfl) (fun p e s m below meth c ls X hI hl => r_Model_goesTo_0 X a0 x1 x2 x3 h hm hI hl)
-- walk of AllHomeModel.way
theorem d_Model_way_0 : decode prog_9_method_13_code 0 = .ok (.iload_n 1, 1) := by decide +kernel
theorem d_Model_way_1 : decode prog_9_method_13_code 1 = .ok (.i2l, 1) := by decide +kernel
theorem d_Model_way_2 : decode prog_9_method_13_code 2 = .ok (.lconst 0, 1) := by decide +kernel
theorem d_Model_way_3 : decode prog_9_method_13_code 3 = .ok (.ldc2_w 126, 3) := by decide +kernel
theorem d_Model_way_6 : decode prog_9_method_13_code 6 = .ok (.invokestatic 87, 3) := by decide +kernel
theorem d_Model_way_9 : decode prog_9_method_13_code 9 = .ok (.ifCond .ne 5, 3) := by decide +kernel
theorem d_Model_way_12 : decode prog_9_method_13_code 12 = .ok (.iconst (-1), 1) := by decide +kernel
theorem d_Model_way_13 : decode prog_9_method_13_code 13 = .ok (.ireturn, 1) := by decide +kernel
theorem d_Model_way_14 : decode prog_9_method_13_code 14 = .ok (.aload_n 0, 1) := by decide +kernel
theorem d_Model_way_15 : decode prog_9_method_13_code 15 = .ok (.getfield 82, 3) := by decide +kernel
theorem d_Model_way_18 : decode prog_9_method_13_code 18 = .ok (.bipush 10, 2) := by decide +kernel
theorem d_Model_way_20 : decode prog_9_method_13_code 20 = .ok (.if_icmp .ne 6, 3) := by decide +kernel
theorem d_Model_way_23 : decode prog_9_method_13_code 23 = .ok (.bipush (-3), 2) := by decide +kernel
theorem d_Model_way_25 : decode prog_9_method_13_code 25 = .ok (.ireturn, 1) := by decide +kernel
theorem d_Model_way_26 : decode prog_9_method_13_code 26 = .ok (.aload_n 0, 1) := by decide +kernel
theorem d_Model_way_27 : decode prog_9_method_13_code 27 = .ok (.getfield 19, 3) := by decide +kernel
theorem d_Model_way_30 : decode prog_9_method_13_code 30 = .ok (.aload_n 0, 1) := by decide +kernel
theorem d_Model_way_31 : decode prog_9_method_13_code 31 = .ok (.getfield 82, 3) := by decide +kernel
theorem d_Model_way_34 : decode prog_9_method_13_code 34 = .ok (.iload_n 1, 1) := by decide +kernel
theorem d_Model_way_35 : decode prog_9_method_13_code 35 = .ok (.iastore, 1) := by decide +kernel
theorem d_Model_way_36 : decode prog_9_method_13_code 36 = .ok (.aload_n 0, 1) := by decide +kernel
theorem d_Model_way_37 : decode prog_9_method_13_code 37 = .ok (.dup, 1) := by decide +kernel
theorem d_Model_way_38 : decode prog_9_method_13_code 38 = .ok (.getfield 82, 3) := by decide +kernel
theorem d_Model_way_41 : decode prog_9_method_13_code 41 = .ok (.iconst 1, 1) := by decide +kernel
theorem d_Model_way_42 : decode prog_9_method_13_code 42 = .ok (.iadd, 1) := by decide +kernel
theorem d_Model_way_43 : decode prog_9_method_13_code 43 = .ok (.putfield 82, 3) := by decide +kernel
theorem d_Model_way_46 : decode prog_9_method_13_code 46 = .ok (.aload_n 0, 1) := by decide +kernel
theorem d_Model_way_47 : decode prog_9_method_13_code 47 = .ok (.getfield 82, 3) := by decide +kernel
theorem d_Model_way_50 : decode prog_9_method_13_code 50 = .ok (.iconst 1, 1) := by decide +kernel
theorem d_Model_way_51 : decode prog_9_method_13_code 51 = .ok (.isub, 1) := by decide +kernel
theorem d_Model_way_52 : decode prog_9_method_13_code 52 = .ok (.ireturn, 1) := by decide +kernel
set_option maxHeartbeats 4000000 in
set_option maxRecDepth 100000 in
theorem r_Model_way_0 {p : Program} {l : Launch} {e : Env} {s : State} {m : MethodId} {args : Array Value} {below : List Frame} {meth : Method} {c : Code} {G : zG} {K : Nat} (X : zX p s m args meth c "AllHomeModel" prog_9_method_13_code 2 (some .int) G (zA G K)) {r : Int32} {h' : zH} (a0 : Nat) (x1 : Int32) (h : zH) (hm : m_Model_way a0 x1 h = some (r, h')) {H : Heap} {locs : List Loc} {ls : Array Slot} (hI : zI G K s (zA G K) H locs h) (hl : lv_has ls 2 [(0, .ref (G.1 a0)), (1, .int x1)]) : W p l e (zR 1) s m args below meth c H locs 0 0 (MQ below (zQi G K r h') args s 0 0 (zA G K)) (F0 m 0 ls []) := by
  obtain ⟨hx, hb, hml, hown, hts, hr, hlocks, hK, hST, hNs⟩ := id X
  unfold m_Model_way at hm
  refine lv_iload_n hx hb d_Model_way_0 rfl (lv_at hl 1 rfl) ?_
  refine lv_i2l hx hb d_Model_way_1 rfl ?_
  refine lv_lconst (v := 0) hx hb d_Model_way_2 (by decide) ?_
  refine lv_ldc2 hx hb hown (hts _ kw821) d_Model_way_3 ?_
  obtain ⟨v6, hv, hm⟩ := zbd hm
  refine z_ci hI (z_runS (As := [.long x1.toInt64, .long (0 : Int64), .long (8 : Int64)]) (rest := []) X hI hl.1 (c_Model_within l G K x1.toInt64 (0 : Int64) (8 : Int64) h _ hv) C_Model_87 rfl (Nat.le_of_ble_eq_true rfl) ⟨Nat.le_of_ble_eq_true rfl, Nat.le_of_ble_eq_true rfl, Nat.zero_le _, Nat.zero_le _⟩ rfl d_Model_way_6) (fun H locs hI => ?_)
  refine lv_if_ne (tgt := 14) hx hb d_Model_way_9 (by decide) (fun hc9 => ?_) (fun hc9 => ?_)
  · replace hm := zif_f hc9 hm
    refine lv_aload_n hx hb d_Model_way_14 rfl (lv_at hl 0 rfl) ?_
    obtain ⟨v15, hv, hm⟩ := zbd hm
    refine z_getI X hI F_Model_82 hv d_Model_way_15 ?_
    refine lv_bipush (v := (nI 10)) hx hb d_Model_way_18 (by decide) ?_
    refine lv_icmp_ne (tgt := 26) hx hb d_Model_way_20 (by decide) (fun hc20 => ?_) (fun hc20 => ?_)
    · replace hm := zif_f hc20 hm
      refine lv_aload_n hx hb d_Model_way_26 rfl (lv_at hl 0 rfl) ?_
      obtain ⟨v27, hv, hm⟩ := zbd hm
      refine z_getR X hI F_Model_19 hv d_Model_way_27 ?_
      refine lv_aload_n hx hb d_Model_way_30 rfl (lv_at hl 0 rfl) ?_
      obtain ⟨v31, hv, hm⟩ := zbd hm
      refine z_getI X hI F_Model_82 hv d_Model_way_31 ?_
      refine lv_iload_n hx hb d_Model_way_34 rfl (lv_at hl 1 rfl) ?_
      obtain ⟨h35, hv, hm⟩ := zbd hm
      refine z_iast X hI hv d_Model_way_35 (fun H locs hI => ?_)
      refine lv_aload_n hx hb d_Model_way_36 rfl (lv_at hl 0 rfl) ?_
      refine lv_dup hx hb d_Model_way_37 rfl ?_
      obtain ⟨v38, hv, hm⟩ := zbd hm
      refine z_getI X hI F_Model_82 hv d_Model_way_38 ?_
      refine lv_iconst (v := (nI 1)) hx hb d_Model_way_41 (by decide) ?_
      refine lv_iadd hx hb d_Model_way_42 ?_
      obtain ⟨h43, hv, hm⟩ := zbd hm
      refine z_putI X hI P_Model_82 hv d_Model_way_43 (fun H locs hI => ?_)
      refine lv_aload_n hx hb d_Model_way_46 rfl (lv_at hl 0 rfl) ?_
      obtain ⟨v47, hv, hm⟩ := zbd hm
      refine z_getI X hI F_Model_82 hv d_Model_way_47 ?_
      refine lv_iconst (v := (nI 1)) hx hb d_Model_way_50 (by decide) ?_
      refine lv_isub hx hb d_Model_way_51 ?_
      obtain ⟨rfl, rfl⟩ := zs2 hm
      exact z_iret X hI d_Model_way_52
    · replace hm := zif_t hc20 hm
      refine lv_bipush (v := (-3 : Int32)) hx hb d_Model_way_23 (by decide) ?_
      obtain ⟨rfl, rfl⟩ := zs2 hm
      exact z_iret X hI d_Model_way_25
  · replace hm := zif_t hc9 hm
    refine lv_iconst (v := (-1 : Int32)) hx hb d_Model_way_12 (by decide) ?_
    obtain ⟨rfl, rfl⟩ := zs2 hm
    exact z_iret X hI d_Model_way_13
set_option maxHeartbeats 4000000 in
set_option maxRecDepth 100000 in
theorem c_Model_way (l : Launch) (G : zG) (K : Nat) (a0 : Nat) (x1 : Int32) (h : zH) (r : Int32) (h' : zH) (hm : m_Model_way a0 x1 h = some (r, h')) : zMi l G K y_Model_way prog_9_method_13_code 2 1 [.ref (G.1 a0), .int x1] h r h' := zMet (by decide +kernel) (Nat.le_of_ble_eq_true rfl) (fun p e s m below meth c ls X hI hl => r_Model_way_0 X a0 x1 h hm hI hl)
-- walk of AllHomeModel.kindOf
theorem d_Model_kindOf_0 : decode prog_9_method_14_code 0 = .ok (.aload_n 0, 1) := by decide +kernel
theorem d_Model_kindOf_1 : decode prog_9_method_14_code 1 = .ok (.iload_n 1, 1) := by decide +kernel
theorem d_Model_kindOf_2 : decode prog_9_method_14_code 2 = .ok (.invokevirtual 128, 3) := by decide +kernel
theorem d_Model_kindOf_5 : decode prog_9_method_14_code 5 = .ok (.ifCond .eq 12, 3) := by decide +kernel
theorem d_Model_kindOf_8 : decode prog_9_method_14_code 8 = .ok (.aload_n 0, 1) := by decide +kernel
theorem d_Model_kindOf_9 : decode prog_9_method_14_code 9 = .ok (.getfield 19, 3) := by decide +kernel
theorem d_Model_kindOf_12 : decode prog_9_method_14_code 12 = .ok (.iload_n 1, 1) := by decide +kernel
theorem d_Model_kindOf_13 : decode prog_9_method_14_code 13 = .ok (.iaload, 1) := by decide +kernel
theorem d_Model_kindOf_14 : decode prog_9_method_14_code 14 = .ok (.goto 4, 3) := by decide +kernel
theorem d_Model_kindOf_17 : decode prog_9_method_14_code 17 = .ok (.iconst (-1), 1) := by decide +kernel
theorem d_Model_kindOf_18 : decode prog_9_method_14_code 18 = .ok (.ireturn, 1) := by decide +kernel
set_option maxHeartbeats 4000000 in
set_option maxRecDepth 100000 in
theorem r_Model_kindOf_0 {p : Program} {l : Launch} {e : Env} {s : State} {m : MethodId} {args : Array Value} {below : List Frame} {meth : Method} {c : Code} {G : zG} {K : Nat} (X : zX p s m args meth c "AllHomeModel" prog_9_method_14_code 2 (some .int) G (zA G K)) {r : Int32} (a0 : Nat) (x1 : Int32) (h : zH) (hm : m_Model_kindOf a0 x1 h = some r) {H : Heap} {locs : List Loc} {ls : Array Slot} (hI : zI G K s (zA G K) H locs h) (hl : lv_has ls 2 [(0, .ref (G.1 a0)), (1, .int x1)]) : W p l e (zR 1) s m args below meth c H locs 0 0 (MQ below (zQi G K r h) args s 0 0 (zA G K)) (F0 m 0 ls []) := by
  obtain ⟨hx, hb, hml, hown, hts, hr, hlocks, hK, hST, hNs⟩ := id X
  unfold m_Model_kindOf at hm
  refine lv_aload_n hx hb d_Model_kindOf_0 rfl (lv_at hl 0 rfl) ?_
  refine lv_iload_n hx hb d_Model_kindOf_1 rfl (lv_at hl 1 rfl) ?_
  obtain ⟨v2, hv, hm⟩ := zbd hm
  obtain ⟨hq, hv⟩ := zcv_at hv
  refine z_ci hI (z_runV (As := [.int x1]) (rest := []) X hI hl.1 (c_Model_isWay l G K a0 x1 h _ hv) C_Model_128 rfl hq (Nat.le_of_ble_eq_true rfl) ⟨Nat.le_of_ble_eq_true rfl, Nat.le_of_ble_eq_true rfl, Nat.zero_le _, Nat.zero_le _⟩ rfl d_Model_kindOf_2) (fun H locs hI => ?_)
  refine lv_if_eq (tgt := 17) hx hb d_Model_kindOf_5 (by decide) (fun hc5 => ?_) (fun hc5 => ?_)
  · replace hm := zif_t hc5 hm
    refine lv_iconst (v := (-1 : Int32)) hx hb d_Model_kindOf_17 (by decide) ?_
    obtain rfl := zs1 hm
    exact z_iret X hI d_Model_kindOf_18
  · replace hm := zif_f hc5 hm
    refine lv_aload_n hx hb d_Model_kindOf_8 rfl (lv_at hl 0 rfl) ?_
    obtain ⟨v9, hv, hm⟩ := zbd hm
    refine z_getR X hI F_Model_19 hv d_Model_kindOf_9 ?_
    refine lv_iload_n hx hb d_Model_kindOf_12 rfl (lv_at hl 1 rfl) ?_
    obtain ⟨v13, hv, hm⟩ := zbd hm
    refine z_iald X hI hv d_Model_kindOf_13 ?_
    refine lv_goto (tgt := 18) hx hb d_Model_kindOf_14 (by decide) ?_
    obtain rfl := zs1 hm
    exact z_iret X hI d_Model_kindOf_18
set_option maxHeartbeats 4000000 in
set_option maxRecDepth 100000 in
theorem c_Model_kindOf (l : Launch) (G : zG) (K : Nat) (a0 : Nat) (x1 : Int32) (h : zH) (r : Int32) (hm : m_Model_kindOf a0 x1 h = some r) : zMi l G K y_Model_kindOf prog_9_method_14_code 2 1 [.ref (G.1 a0), .int x1] h r h := zMet (by decide +kernel) (Nat.le_of_ble_eq_true rfl) (fun p e s m below meth c ls X hI hl => r_Model_kindOf_0 X a0 x1 h hm hI hl)
-- walk of AllHomeModel.above
theorem d_Model_above_0 : decode prog_9_method_16_code 0 = .ok (.iload_n 0, 1) := by decide +kernel
theorem d_Model_above_1 : decode prog_9_method_16_code 1 = .ok (.iconst 4, 1) := by decide +kernel
theorem d_Model_above_2 : decode prog_9_method_16_code 2 = .ok (.if_icmp .eq 8, 3) := by decide +kernel
theorem d_Model_above_5 : decode prog_9_method_16_code 5 = .ok (.iload_n 0, 1) := by decide +kernel
theorem d_Model_above_6 : decode prog_9_method_16_code 6 = .ok (.iconst 5, 1) := by decide +kernel
theorem d_Model_above_7 : decode prog_9_method_16_code 7 = .ok (.if_icmp .ne 7, 3) := by decide +kernel
theorem d_Model_above_10 : decode prog_9_method_16_code 10 = .ok (.iconst 3, 1) := by decide +kernel
theorem d_Model_above_11 : decode prog_9_method_16_code 11 = .ok (.goto 34, 3) := by decide +kernel
theorem d_Model_above_14 : decode prog_9_method_16_code 14 = .ok (.iload_n 0, 1) := by decide +kernel
theorem d_Model_above_15 : decode prog_9_method_16_code 15 = .ok (.bipush 6, 2) := by decide +kernel
theorem d_Model_above_17 : decode prog_9_method_16_code 17 = .ok (.if_icmp .ne 7, 3) := by decide +kernel
theorem d_Model_above_20 : decode prog_9_method_16_code 20 = .ok (.iconst 2, 1) := by decide +kernel
theorem d_Model_above_21 : decode prog_9_method_16_code 21 = .ok (.goto 24, 3) := by decide +kernel
theorem d_Model_above_24 : decode prog_9_method_16_code 24 = .ok (.iload_n 0, 1) := by decide +kernel
theorem d_Model_above_25 : decode prog_9_method_16_code 25 = .ok (.bipush 7, 2) := by decide +kernel
theorem d_Model_above_27 : decode prog_9_method_16_code 27 = .ok (.if_icmp .ne 7, 3) := by decide +kernel
theorem d_Model_above_30 : decode prog_9_method_16_code 30 = .ok (.iconst 4, 1) := by decide +kernel
theorem d_Model_above_31 : decode prog_9_method_16_code 31 = .ok (.goto 14, 3) := by decide +kernel
theorem d_Model_above_34 : decode prog_9_method_16_code 34 = .ok (.iload_n 0, 1) := by decide +kernel
theorem d_Model_above_35 : decode prog_9_method_16_code 35 = .ok (.bipush 8, 2) := by decide +kernel
theorem d_Model_above_37 : decode prog_9_method_16_code 37 = .ok (.if_icmp .ne 7, 3) := by decide +kernel
theorem d_Model_above_40 : decode prog_9_method_16_code 40 = .ok (.iconst 5, 1) := by decide +kernel
theorem d_Model_above_41 : decode prog_9_method_16_code 41 = .ok (.goto 4, 3) := by decide +kernel
theorem d_Model_above_44 : decode prog_9_method_16_code 44 = .ok (.iconst 0, 1) := by decide +kernel
theorem d_Model_above_45 : decode prog_9_method_16_code 45 = .ok (.ireturn, 1) := by decide +kernel
set_option maxHeartbeats 4000000 in
set_option maxRecDepth 100000 in
theorem r_Model_above_0 {p : Program} {l : Launch} {e : Env} {s : State} {m : MethodId} {args : Array Value} {below : List Frame} {meth : Method} {c : Code} {G : zG} {K : Nat} (X : zX p s m args meth c "AllHomeModel" prog_9_method_16_code 1 (some .int) G (zA G K)) {r : Int32} (x0 : Int32) (h : zH) (hm : m_Model_above x0 h = some r) {H : Heap} {locs : List Loc} {ls : Array Slot} (hI : zI G K s (zA G K) H locs h) (hl : lv_has ls 1 [(0, .int x0)]) : W p l e (zR 0) s m args below meth c H locs 0 0 (MQ below (zQi G K r h) args s 0 0 (zA G K)) (F0 m 0 ls []) := by
  obtain ⟨hx, hb, hml, hown, hts, hr, hlocks, hK, hST, hNs⟩ := id X
  unfold m_Model_above at hm
  refine lv_iload_n hx hb d_Model_above_0 rfl (lv_at hl 0 rfl) ?_
  refine lv_iconst (v := (nI 4)) hx hb d_Model_above_1 (by decide) ?_
  refine lv_icmp_eq (tgt := 10) hx hb d_Model_above_2 (by decide) (fun hc2 => ?_) (fun hc2 => ?_)
  · replace hm := zif_t hc2 hm
    refine lv_iconst (v := (nI 3)) hx hb d_Model_above_10 (by decide) ?_
    refine lv_goto (tgt := 45) hx hb d_Model_above_11 (by decide) ?_
    obtain rfl := zs1 hm
    exact z_iret X hI d_Model_above_45
  · replace hm := zif_f hc2 hm
    refine lv_iload_n hx hb d_Model_above_5 rfl (lv_at hl 0 rfl) ?_
    refine lv_iconst (v := (nI 5)) hx hb d_Model_above_6 (by decide) ?_
    refine lv_icmp_ne (tgt := 14) hx hb d_Model_above_7 (by decide) (fun hc7 => ?_) (fun hc7 => ?_)
    · replace hm := zif_f hc7 hm
      refine lv_iload_n hx hb d_Model_above_14 rfl (lv_at hl 0 rfl) ?_
      refine lv_bipush (v := (nI 6)) hx hb d_Model_above_15 (by decide) ?_
      refine lv_icmp_ne (tgt := 24) hx hb d_Model_above_17 (by decide) (fun hc17 => ?_) (fun hc17 => ?_)
      · replace hm := zif_f hc17 hm
        refine lv_iload_n hx hb d_Model_above_24 rfl (lv_at hl 0 rfl) ?_
        refine lv_bipush (v := (nI 7)) hx hb d_Model_above_25 (by decide) ?_
        refine lv_icmp_ne (tgt := 34) hx hb d_Model_above_27 (by decide) (fun hc27 => ?_) (fun hc27 => ?_)
        · replace hm := zif_f hc27 hm
          refine lv_iload_n hx hb d_Model_above_34 rfl (lv_at hl 0 rfl) ?_
          refine lv_bipush (v := (nI 8)) hx hb d_Model_above_35 (by decide) ?_
          refine lv_icmp_ne (tgt := 44) hx hb d_Model_above_37 (by decide) (fun hc37 => ?_) (fun hc37 => ?_)
          · replace hm := zif_f hc37 hm
            refine lv_iconst (v := (nI 0)) hx hb d_Model_above_44 (by decide) ?_
            obtain rfl := zs1 hm
            exact z_iret X hI d_Model_above_45
          · replace hm := zif_t hc37 hm
            refine lv_iconst (v := (nI 5)) hx hb d_Model_above_40 (by decide) ?_
            refine lv_goto (tgt := 45) hx hb d_Model_above_41 (by decide) ?_
            obtain rfl := zs1 hm
            exact z_iret X hI d_Model_above_45
        · replace hm := zif_t hc27 hm
          refine lv_iconst (v := (nI 4)) hx hb d_Model_above_30 (by decide) ?_
          refine lv_goto (tgt := 45) hx hb d_Model_above_31 (by decide) ?_
          obtain rfl := zs1 hm
          exact z_iret X hI d_Model_above_45
      · replace hm := zif_t hc17 hm
        refine lv_iconst (v := (nI 2)) hx hb d_Model_above_20 (by decide) ?_
        refine lv_goto (tgt := 45) hx hb d_Model_above_21 (by decide) ?_
        obtain rfl := zs1 hm
        exact z_iret X hI d_Model_above_45
    · replace hm := zif_t hc7 hm
      refine lv_iconst (v := (nI 3)) hx hb d_Model_above_10 (by decide) ?_
      refine lv_goto (tgt := 45) hx hb d_Model_above_11 (by decide) ?_
      obtain rfl := zs1 hm
      exact z_iret X hI d_Model_above_45
set_option maxHeartbeats 4000000 in
set_option maxRecDepth 100000 in
theorem c_Model_above (l : Launch) (G : zG) (K : Nat) (x0 : Int32) (h : zH) (r : Int32) (hm : m_Model_above x0 h = some r) : zMi l G K y_Model_above prog_9_method_16_code 1 0 [.int x0] h r h := zMet (by decide +kernel) (Nat.le_of_ble_eq_true rfl) (fun p e s m below meth c ls X hI hl => r_Model_above_0 X x0 h hm hI hl)
-- walk of AllHomeModel.isUnder
theorem d_Model_isUnder_0 : decode prog_9_method_15_code 0 = .ok (.iload_n 0, 1) := by decide +kernel
theorem d_Model_isUnder_1 : decode prog_9_method_15_code 1 = .ok (.istore_n 2, 1) := by decide +kernel
theorem d_Model_isUnder_2 : decode prog_9_method_15_code 2 = .ok (.iload_n 2, 1) := by decide +kernel
theorem d_Model_isUnder_3 : decode prog_9_method_15_code 3 = .ok (.iload_n 1, 1) := by decide +kernel
theorem d_Model_isUnder_4 : decode prog_9_method_15_code 4 = .ok (.if_icmp .eq 15, 3) := by decide +kernel
theorem d_Model_isUnder_7 : decode prog_9_method_15_code 7 = .ok (.iload_n 2, 1) := by decide +kernel
theorem d_Model_isUnder_8 : decode prog_9_method_15_code 8 = .ok (.ifCond .le 11, 3) := by decide +kernel
theorem d_Model_isUnder_11 : decode prog_9_method_15_code 11 = .ok (.iload_n 2, 1) := by decide +kernel
theorem d_Model_isUnder_12 : decode prog_9_method_15_code 12 = .ok (.invokestatic 131, 3) := by decide +kernel
theorem d_Model_isUnder_15 : decode prog_9_method_15_code 15 = .ok (.istore_n 2, 1) := by decide +kernel
theorem d_Model_isUnder_16 : decode prog_9_method_15_code 16 = .ok (.goto (-14), 3) := by decide +kernel
theorem d_Model_isUnder_19 : decode prog_9_method_15_code 19 = .ok (.iload_n 2, 1) := by decide +kernel
theorem d_Model_isUnder_20 : decode prog_9_method_15_code 20 = .ok (.iload_n 1, 1) := by decide +kernel
theorem d_Model_isUnder_21 : decode prog_9_method_15_code 21 = .ok (.if_icmp .ne 7, 3) := by decide +kernel
theorem d_Model_isUnder_24 : decode prog_9_method_15_code 24 = .ok (.iconst 1, 1) := by decide +kernel
theorem d_Model_isUnder_25 : decode prog_9_method_15_code 25 = .ok (.goto 4, 3) := by decide +kernel
theorem d_Model_isUnder_28 : decode prog_9_method_15_code 28 = .ok (.iconst 0, 1) := by decide +kernel
theorem d_Model_isUnder_29 : decode prog_9_method_15_code 29 = .ok (.ireturn, 1) := by decide +kernel
set_option maxHeartbeats 4000000 in
set_option maxRecDepth 100000 in
theorem r_Model_isUnder_2_b {p : Program} {l : Launch} {e : Env} {s : State} {m : MethodId} {args : Array Value} {below : List Frame} {meth : Method} {c : Code} {G : zG} {K : Nat} (X : zX p s m args meth c "AllHomeModel" prog_9_method_15_code 3 (some .boolean) G (zA G K)) {r : Int32} (x1 : Int32) (h : zH) (k2 : (Int32) → Option Int32) (hk2 : ∀ (w : Int32), k2 w = some r → ∀ (H : Heap) (locs : List Loc) (ls : Array Slot), zI G K s (zA G K) H locs h → lv_has ls 3 [(1, .int x1), (2, .int w)] → W p l e (zR 1) s m args below meth c H locs 0 0 (MQ below (zQi G K r h) args s 0 0 (zA G K)) (F0 m 2 ls [])) (u : Int32) (hm : g_Model_isUnder_2 x1 h k2 u = some r) {H : Heap} {locs : List Loc} {ls : Array Slot} (hI : zI G K s (zA G K) H locs h) (hl : lv_has ls 3 [(1, .int x1), (2, .int u)]) : W p l e (zR 1) s m args below meth c H locs 0 0 (MQ below (zQi G K r h) args s 0 0 (zA G K)) (F0 m 2 ls []) := by
  obtain ⟨hx, hb, hml, hown, hts, hr, hlocks, hK, hST, hNs⟩ := id X
  unfold g_Model_isUnder_2 at hm
  refine lv_iload_n hx hb d_Model_isUnder_2 rfl (lv_at hl 1 rfl) ?_
  refine lv_iload_n hx hb d_Model_isUnder_3 rfl (lv_at hl 0 rfl) ?_
  refine lv_icmp_eq (tgt := 19) hx hb d_Model_isUnder_4 (by decide) (fun hc4 => ?_) (fun hc4 => ?_)
  · replace hm := zif_t hc4 hm
    refine lv_iload_n hx hb d_Model_isUnder_19 rfl (lv_at hl 1 rfl) ?_
    refine lv_iload_n hx hb d_Model_isUnder_20 rfl (lv_at hl 0 rfl) ?_
    refine lv_icmp_ne (tgt := 28) hx hb d_Model_isUnder_21 (by decide) (fun hc21 => ?_) (fun hc21 => ?_)
    · replace hm := zif_f hc21 hm
      refine lv_iconst (v := (nI 0)) hx hb d_Model_isUnder_28 (by decide) ?_
      obtain rfl := zs1 hm
      exact z_zret X hI (by decide) d_Model_isUnder_29
    · replace hm := zif_t hc21 hm
      refine lv_iconst (v := (nI 1)) hx hb d_Model_isUnder_24 (by decide) ?_
      refine lv_goto (tgt := 29) hx hb d_Model_isUnder_25 (by decide) ?_
      obtain rfl := zs1 hm
      exact z_zret X hI (by decide) d_Model_isUnder_29
  · replace hm := zif_f hc4 hm
    refine lv_iload_n hx hb d_Model_isUnder_7 rfl (lv_at hl 1 rfl) ?_
    refine lv_if_le (tgt := 19) hx hb d_Model_isUnder_8 (by decide) (fun hc8 => ?_) (fun hc8 => ?_)
    · replace hm := zif_t hc8 hm
      refine lv_iload_n hx hb d_Model_isUnder_19 rfl (lv_at hl 1 rfl) ?_
      refine lv_iload_n hx hb d_Model_isUnder_20 rfl (lv_at hl 0 rfl) ?_
      refine lv_icmp_ne (tgt := 28) hx hb d_Model_isUnder_21 (by decide) (fun hc21 => ?_) (fun hc21 => ?_)
      · replace hm := zif_f hc21 hm
        refine lv_iconst (v := (nI 0)) hx hb d_Model_isUnder_28 (by decide) ?_
        obtain rfl := zs1 hm
        exact z_zret X hI (by decide) d_Model_isUnder_29
      · replace hm := zif_t hc21 hm
        refine lv_iconst (v := (nI 1)) hx hb d_Model_isUnder_24 (by decide) ?_
        refine lv_goto (tgt := 29) hx hb d_Model_isUnder_25 (by decide) ?_
        obtain rfl := zs1 hm
        exact z_zret X hI (by decide) d_Model_isUnder_29
    · replace hm := zif_f hc8 hm
      refine lv_iload_n hx hb d_Model_isUnder_11 rfl (lv_at hl 1 rfl) ?_
      obtain ⟨v12, hv, hm⟩ := zbd hm
      refine z_ci hI (z_runS (As := [.int u]) (rest := []) X hI hl.1 (c_Model_above l G K u h _ hv) C_Model_131 rfl (Nat.le_of_ble_eq_true rfl) ⟨Nat.le_of_ble_eq_true rfl, Nat.le_of_ble_eq_true rfl, Nat.zero_le _, Nat.zero_le _⟩ rfl d_Model_isUnder_12) (fun H locs hI => ?_)
      refine lv_istore_n (lv' := [(2, .int v12), (1, .int x1)]) hx hb d_Model_isUnder_15 rfl hl (by decide) rfl (fun ls hl => ?_)
      refine lv_goto (tgt := 2) hx hb d_Model_isUnder_16 (by decide) ?_
      exact hk2 v12 hm _ _ _ hI (lv_sub hl [1, 0] rfl)
theorem r_Model_isUnder_2 {p : Program} {l : Launch} {e : Env} {s : State} {m : MethodId} {args : Array Value} {below : List Frame} {meth : Method} {c : Code} {G : zG} {K : Nat} (X : zX p s m args meth c "AllHomeModel" prog_9_method_15_code 3 (some .boolean) G (zA G K)) {r : Int32} (x1 : Int32) (h : zH) : ∀ (n : Nat) (w : Int32), zloop (g_Model_isUnder_2 x1 h) n w = some r → ∀ (H : Heap) (locs : List Loc) (ls : Array Slot), zI G K s (zA G K) H locs h → lv_has ls 3 [(1, .int x1), (2, .int w)] → W p l e (zR 1) s m args below meth c H locs 0 0 (MQ below (zQi G K r h) args s 0 0 (zA G K)) (F0 m 2 ls []) := by
  intro n
  induction n with
  | zero => intro w hm; cases hm
  | succ n ih => intro w hm H locs ls hI hl; exact r_Model_isUnder_2_b X x1 h (zloop (g_Model_isUnder_2 x1 h) n) ih w (zls hm) hI hl
set_option maxHeartbeats 4000000 in
set_option maxRecDepth 100000 in
theorem r_Model_isUnder_0 {p : Program} {l : Launch} {e : Env} {s : State} {m : MethodId} {args : Array Value} {below : List Frame} {meth : Method} {c : Code} {G : zG} {K : Nat} (X : zX p s m args meth c "AllHomeModel" prog_9_method_15_code 3 (some .boolean) G (zA G K)) {r : Int32} (x0 : Int32) (x1 : Int32) (h : zH) (hm : m_Model_isUnder x0 x1 h = some r) {H : Heap} {locs : List Loc} {ls : Array Slot} (hI : zI G K s (zA G K) H locs h) (hl : lv_has ls 3 [(0, .int x0), (1, .int x1)]) : W p l e (zR 1) s m args below meth c H locs 0 0 (MQ below (zQi G K r h) args s 0 0 (zA G K)) (F0 m 0 ls []) := by
  obtain ⟨hx, hb, hml, hown, hts, hr, hlocks, hK, hST, hNs⟩ := id X
  unfold m_Model_isUnder at hm
  refine lv_iload_n hx hb d_Model_isUnder_0 rfl (lv_at hl 0 rfl) ?_
  refine lv_istore_n (lv' := [(2, .int x0), (0, .int x0), (1, .int x1)]) hx hb d_Model_isUnder_1 rfl hl (by decide) rfl (fun ls hl => ?_)
  exact r_Model_isUnder_2 X x1 h zN x0 hm _ _ _ hI (lv_sub hl [2, 0] rfl)
set_option maxHeartbeats 4000000 in
set_option maxRecDepth 100000 in
theorem c_Model_isUnder (l : Launch) (G : zG) (K : Nat) (x0 : Int32) (x1 : Int32) (h : zH) (r : Int32) (hm : m_Model_isUnder x0 x1 h = some r) : zMz l G K y_Model_isUnder prog_9_method_15_code 3 1 [.int x0, .int x1] h r h := zMet (by decide +kernel) (Nat.le_of_ble_eq_true rfl) (fun p e s m below meth c ls X hI hl => r_Model_isUnder_0 X x0 x1 h hm hI hl)
-- walk of AllHomeModel.begin
theorem d_Model_begin_0 : decode prog_9_method_17_code 0 = .ok (.aload_n 0, 1) := by decide +kernel
theorem d_Model_begin_1 : decode prog_9_method_17_code 1 = .ok (.iload_n 1, 1) := by decide +kernel
theorem d_Model_begin_2 : decode prog_9_method_17_code 2 = .ok (.putfield 134, 3) := by decide +kernel
theorem d_Model_begin_5 : decode prog_9_method_17_code 5 = .ok (.iconst 0, 1) := by decide +kernel
theorem d_Model_begin_6 : decode prog_9_method_17_code 6 = .ok (.istore_n 2, 1) := by decide +kernel
theorem d_Model_begin_7 : decode prog_9_method_17_code 7 = .ok (.iload_n 2, 1) := by decide +kernel
theorem d_Model_begin_8 : decode prog_9_method_17_code 8 = .ok (.bipush 91, 2) := by decide +kernel
theorem d_Model_begin_10 : decode prog_9_method_17_code 10 = .ok (.if_icmp .ge 16, 3) := by decide +kernel
theorem d_Model_begin_13 : decode prog_9_method_17_code 13 = .ok (.aload_n 0, 1) := by decide +kernel
theorem d_Model_begin_14 : decode prog_9_method_17_code 14 = .ok (.getfield 22, 3) := by decide +kernel
theorem d_Model_begin_17 : decode prog_9_method_17_code 17 = .ok (.iload_n 2, 1) := by decide +kernel
theorem d_Model_begin_18 : decode prog_9_method_17_code 18 = .ok (.iconst 0, 1) := by decide +kernel
theorem d_Model_begin_19 : decode prog_9_method_17_code 19 = .ok (.iastore, 1) := by decide +kernel
theorem d_Model_begin_20 : decode prog_9_method_17_code 20 = .ok (.iinc 2 1, 3) := by decide +kernel
theorem d_Model_begin_23 : decode prog_9_method_17_code 23 = .ok (.goto (-16), 3) := by decide +kernel
theorem d_Model_begin_26 : decode prog_9_method_17_code 26 = .ok (.iconst 0, 1) := by decide +kernel
theorem d_Model_begin_27 : decode prog_9_method_17_code 27 = .ok (.istore_n 2, 1) := by decide +kernel
theorem d_Model_begin_28 : decode prog_9_method_17_code 28 = .ok (.iload_n 2, 1) := by decide +kernel
theorem d_Model_begin_29 : decode prog_9_method_17_code 29 = .ok (.aload_n 0, 1) := by decide +kernel
theorem d_Model_begin_30 : decode prog_9_method_17_code 30 = .ok (.getfield 78, 3) := by decide +kernel
theorem d_Model_begin_33 : decode prog_9_method_17_code 33 = .ok (.if_icmp .ge 36, 3) := by decide +kernel
theorem d_Model_begin_36 : decode prog_9_method_17_code 36 = .ok (.aload_n 0, 1) := by decide +kernel
theorem d_Model_begin_37 : decode prog_9_method_17_code 37 = .ok (.getfield 22, 3) := by decide +kernel
theorem d_Model_begin_40 : decode prog_9_method_17_code 40 = .ok (.bipush 6, 2) := by decide +kernel
theorem d_Model_begin_42 : decode prog_9_method_17_code 42 = .ok (.iload_n 2, 1) := by decide +kernel
theorem d_Model_begin_43 : decode prog_9_method_17_code 43 = .ok (.imul, 1) := by decide +kernel
theorem d_Model_begin_44 : decode prog_9_method_17_code 44 = .ok (.iconst 4, 1) := by decide +kernel
theorem d_Model_begin_45 : decode prog_9_method_17_code 45 = .ok (.iadd, 1) := by decide +kernel
theorem d_Model_begin_46 : decode prog_9_method_17_code 46 = .ok (.iload_n 1, 1) := by decide +kernel
theorem d_Model_begin_47 : decode prog_9_method_17_code 47 = .ok (.iconst 2, 1) := by decide +kernel
theorem d_Model_begin_48 : decode prog_9_method_17_code 48 = .ok (.if_icmp .eq 9, 3) := by decide +kernel
theorem d_Model_begin_51 : decode prog_9_method_17_code 51 = .ok (.iload_n 1, 1) := by decide +kernel
theorem d_Model_begin_52 : decode prog_9_method_17_code 52 = .ok (.bipush 6, 2) := by decide +kernel
theorem d_Model_begin_54 : decode prog_9_method_17_code 54 = .ok (.if_icmp .ne 7, 3) := by decide +kernel
theorem d_Model_begin_57 : decode prog_9_method_17_code 57 = .ok (.iconst (-1), 1) := by decide +kernel
theorem d_Model_begin_58 : decode prog_9_method_17_code 58 = .ok (.goto 4, 3) := by decide +kernel
theorem d_Model_begin_61 : decode prog_9_method_17_code 61 = .ok (.iconst 0, 1) := by decide +kernel
theorem d_Model_begin_62 : decode prog_9_method_17_code 62 = .ok (.iastore, 1) := by decide +kernel
theorem d_Model_begin_63 : decode prog_9_method_17_code 63 = .ok (.iinc 2 1, 3) := by decide +kernel
theorem d_Model_begin_66 : decode prog_9_method_17_code 66 = .ok (.goto (-38), 3) := by decide +kernel
theorem d_Model_begin_69 : decode prog_9_method_17_code 69 = .ok (.aload_n 0, 1) := by decide +kernel
theorem d_Model_begin_70 : decode prog_9_method_17_code 70 = .ok (.getfield 22, 3) := by decide +kernel
theorem d_Model_begin_73 : decode prog_9_method_17_code 73 = .ok (.iconst 0, 1) := by decide +kernel
theorem d_Model_begin_74 : decode prog_9_method_17_code 74 = .ok (.iconst 1, 1) := by decide +kernel
theorem d_Model_begin_75 : decode prog_9_method_17_code 75 = .ok (.iastore, 1) := by decide +kernel
theorem d_Model_begin_76 : decode prog_9_method_17_code 76 = .ok (.aload_n 0, 1) := by decide +kernel
theorem d_Model_begin_77 : decode prog_9_method_17_code 77 = .ok (.getfield 22, 3) := by decide +kernel
theorem d_Model_begin_80 : decode prog_9_method_17_code 80 = .ok (.iconst 1, 1) := by decide +kernel
theorem d_Model_begin_81 : decode prog_9_method_17_code 81 = .ok (.iconst 1, 1) := by decide +kernel
theorem d_Model_begin_82 : decode prog_9_method_17_code 82 = .ok (.iastore, 1) := by decide +kernel
theorem d_Model_begin_83 : decode prog_9_method_17_code 83 = .ok (.iload_n 1, 1) := by decide +kernel
theorem d_Model_begin_84 : decode prog_9_method_17_code 84 = .ok (.iconst 1, 1) := by decide +kernel
theorem d_Model_begin_85 : decode prog_9_method_17_code 85 = .ok (.if_icmp .ne 20, 3) := by decide +kernel
theorem d_Model_begin_88 : decode prog_9_method_17_code 88 = .ok (.aload_n 0, 1) := by decide +kernel
theorem d_Model_begin_89 : decode prog_9_method_17_code 89 = .ok (.getfield 22, 3) := by decide +kernel
theorem d_Model_begin_92 : decode prog_9_method_17_code 92 = .ok (.iconst 3, 1) := by decide +kernel
theorem d_Model_begin_93 : decode prog_9_method_17_code 93 = .ok (.bipush 64, 2) := by decide +kernel
theorem d_Model_begin_95 : decode prog_9_method_17_code 95 = .ok (.iastore, 1) := by decide +kernel
theorem d_Model_begin_96 : decode prog_9_method_17_code 96 = .ok (.aload_n 0, 1) := by decide +kernel
theorem d_Model_begin_97 : decode prog_9_method_17_code 97 = .ok (.getfield 22, 3) := by decide +kernel
theorem d_Model_begin_100 : decode prog_9_method_17_code 100 = .ok (.bipush 86, 2) := by decide +kernel
theorem d_Model_begin_102 : decode prog_9_method_17_code 102 = .ok (.bipush 64, 2) := by decide +kernel
theorem d_Model_begin_104 : decode prog_9_method_17_code 104 = .ok (.iastore, 1) := by decide +kernel
theorem d_Model_begin_105 : decode prog_9_method_17_code 105 = .ok (.aload_n 0, 1) := by decide +kernel
theorem d_Model_begin_106 : decode prog_9_method_17_code 106 = .ok (.getfield 22, 3) := by decide +kernel
theorem d_Model_begin_109 : decode prog_9_method_17_code 109 = .ok (.iconst 5, 1) := by decide +kernel
theorem d_Model_begin_110 : decode prog_9_method_17_code 110 = .ok (.iload_n 1, 1) := by decide +kernel
theorem d_Model_begin_111 : decode prog_9_method_17_code 111 = .ok (.iconst 2, 1) := by decide +kernel
theorem d_Model_begin_112 : decode prog_9_method_17_code 112 = .ok (.if_icmp .eq 9, 3) := by decide +kernel
theorem d_Model_begin_115 : decode prog_9_method_17_code 115 = .ok (.iload_n 1, 1) := by decide +kernel
theorem d_Model_begin_116 : decode prog_9_method_17_code 116 = .ok (.bipush 6, 2) := by decide +kernel
theorem d_Model_begin_118 : decode prog_9_method_17_code 118 = .ok (.if_icmp .ne 7, 3) := by decide +kernel
theorem d_Model_begin_121 : decode prog_9_method_17_code 121 = .ok (.iconst 1, 1) := by decide +kernel
theorem d_Model_begin_122 : decode prog_9_method_17_code 122 = .ok (.goto 4, 3) := by decide +kernel
theorem d_Model_begin_125 : decode prog_9_method_17_code 125 = .ok (.iconst 0, 1) := by decide +kernel
theorem d_Model_begin_126 : decode prog_9_method_17_code 126 = .ok (.iastore, 1) := by decide +kernel
theorem d_Model_begin_127 : decode prog_9_method_17_code 127 = .ok (.aload_n 0, 1) := by decide +kernel
theorem d_Model_begin_128 : decode prog_9_method_17_code 128 = .ok (.iconst 0, 1) := by decide +kernel
theorem d_Model_begin_129 : decode prog_9_method_17_code 129 = .ok (.putfield 137, 3) := by decide +kernel
theorem d_Model_begin_132 : decode prog_9_method_17_code 132 = .ok (.aload_n 0, 1) := by decide +kernel
theorem d_Model_begin_133 : decode prog_9_method_17_code 133 = .ok (.iconst 0, 1) := by decide +kernel
theorem d_Model_begin_134 : decode prog_9_method_17_code 134 = .ok (.putfield 140, 3) := by decide +kernel
theorem d_Model_begin_137 : decode prog_9_method_17_code 137 = .ok (.return_, 1) := by decide +kernel
set_option maxHeartbeats 4000000 in
set_option maxRecDepth 100000 in
theorem r_Model_begin_121 {p : Program} {l : Launch} {e : Env} {s : State} {m : MethodId} {args : Array Value} {below : List Frame} {meth : Method} {c : Code} {G : zG} {K : Nat} (X : zX p s m args meth c "AllHomeModel" prog_9_method_17_code 3 none G (zA G K)) {h' : zH} (a0 : Nat) (c0 : Nat) (y1 : Int32) (h : zH) (hm : g_Model_begin_121 a0 c0 y1 h = some h') {H : Heap} {locs : List Loc} {ls : Array Slot} (hI : zI G K s (zA G K) H locs h) (hl : lv_has ls 3 [(0, .ref (G.1 a0))]) : W p l e (zR 0) s m args below meth c H locs 0 0 (MQ below (zQv G K h') args s 0 0 (zA G K)) (F0 m 121 ls [.int y1, .ref (G.1 c0)]) := by
  obtain ⟨hx, hb, hml, hown, hts, hr, hlocks, hK, hST, hNs⟩ := id X
  unfold g_Model_begin_121 at hm
  refine lv_iconst (v := (nI 1)) hx hb d_Model_begin_121 (by decide) ?_
  refine lv_goto (tgt := 126) hx hb d_Model_begin_122 (by decide) ?_
  obtain ⟨h126, hv, hm⟩ := zbd hm
  refine z_iast X hI hv d_Model_begin_126 (fun H locs hI => ?_)
  refine lv_aload_n hx hb d_Model_begin_127 rfl (lv_at hl 0 rfl) ?_
  refine lv_iconst (v := (nI 0)) hx hb d_Model_begin_128 (by decide) ?_
  obtain ⟨h129, hv, hm⟩ := zbd hm
  refine z_putI X hI P_Model_137 hv d_Model_begin_129 (fun H locs hI => ?_)
  refine lv_aload_n hx hb d_Model_begin_132 rfl (lv_at hl 0 rfl) ?_
  refine lv_iconst (v := (nI 0)) hx hb d_Model_begin_133 (by decide) ?_
  obtain ⟨h134, hv, hm⟩ := zbd hm
  refine z_putI X hI P_Model_140 hv d_Model_begin_134 (fun H locs hI => ?_)
  obtain rfl := zs1 hm
  exact z_vret X hI d_Model_begin_137
set_option maxHeartbeats 4000000 in
set_option maxRecDepth 100000 in
theorem r_Model_begin_105 {p : Program} {l : Launch} {e : Env} {s : State} {m : MethodId} {args : Array Value} {below : List Frame} {meth : Method} {c : Code} {G : zG} {K : Nat} (X : zX p s m args meth c "AllHomeModel" prog_9_method_17_code 3 none G (zA G K)) {h' : zH} (a0 : Nat) (x1 : Int32) (h : zH) (hm : g_Model_begin_105 a0 x1 h = some h') {H : Heap} {locs : List Loc} {ls : Array Slot} (hI : zI G K s (zA G K) H locs h) (hl : lv_has ls 3 [(0, .ref (G.1 a0)), (1, .int x1)]) : W p l e (zR 0) s m args below meth c H locs 0 0 (MQ below (zQv G K h') args s 0 0 (zA G K)) (F0 m 105 ls []) := by
  obtain ⟨hx, hb, hml, hown, hts, hr, hlocks, hK, hST, hNs⟩ := id X
  unfold g_Model_begin_105 at hm
  refine lv_aload_n hx hb d_Model_begin_105 rfl (lv_at hl 0 rfl) ?_
  obtain ⟨v106, hv, hm⟩ := zbd hm
  refine z_getR X hI F_Model_22 hv d_Model_begin_106 ?_
  refine lv_iconst (v := (nI 5)) hx hb d_Model_begin_109 (by decide) ?_
  refine lv_iload_n hx hb d_Model_begin_110 rfl (lv_at hl 1 rfl) ?_
  refine lv_iconst (v := (nI 2)) hx hb d_Model_begin_111 (by decide) ?_
  refine lv_icmp_eq (tgt := 121) hx hb d_Model_begin_112 (by decide) (fun hc112 => ?_) (fun hc112 => ?_)
  · replace hm := zif_t hc112 hm
    exact r_Model_begin_121 X a0 v106 (nI 5) h hm hI (lv_sub hl [0] rfl)
  · replace hm := zif_f hc112 hm
    refine lv_iload_n hx hb d_Model_begin_115 rfl (lv_at hl 1 rfl) ?_
    refine lv_bipush (v := (nI 6)) hx hb d_Model_begin_116 (by decide) ?_
    refine lv_icmp_ne (tgt := 125) hx hb d_Model_begin_118 (by decide) (fun hc118 => ?_) (fun hc118 => ?_)
    · replace hm := zif_f hc118 hm
      refine lv_iconst (v := (nI 0)) hx hb d_Model_begin_125 (by decide) ?_
      obtain ⟨h126, hv, hm⟩ := zbd hm
      refine z_iast X hI hv d_Model_begin_126 (fun H locs hI => ?_)
      refine lv_aload_n hx hb d_Model_begin_127 rfl (lv_at hl 0 rfl) ?_
      refine lv_iconst (v := (nI 0)) hx hb d_Model_begin_128 (by decide) ?_
      obtain ⟨h129, hv, hm⟩ := zbd hm
      refine z_putI X hI P_Model_137 hv d_Model_begin_129 (fun H locs hI => ?_)
      refine lv_aload_n hx hb d_Model_begin_132 rfl (lv_at hl 0 rfl) ?_
      refine lv_iconst (v := (nI 0)) hx hb d_Model_begin_133 (by decide) ?_
      obtain ⟨h134, hv, hm⟩ := zbd hm
      refine z_putI X hI P_Model_140 hv d_Model_begin_134 (fun H locs hI => ?_)
      obtain rfl := zs1 hm
      exact z_vret X hI d_Model_begin_137
    · replace hm := zif_t hc118 hm
      exact r_Model_begin_121 X a0 v106 (nI 5) h hm hI (lv_sub hl [0] rfl)
set_option maxHeartbeats 4000000 in
set_option maxRecDepth 100000 in
theorem r_Model_begin_28_b {p : Program} {l : Launch} {e : Env} {s : State} {m : MethodId} {args : Array Value} {below : List Frame} {meth : Method} {c : Code} {G : zG} {K : Nat} (X : zX p s m args meth c "AllHomeModel" prog_9_method_17_code 3 none G (zA G K)) {h' : zH} (a0 : Nat) (x1 : Int32) (k28 : (Int32 × zH) → Option zH) (hk28 : ∀ (w : Int32 × zH), k28 w = some h' → ∀ (H : Heap) (locs : List Loc) (ls : Array Slot), zI G K s (zA G K) H locs w.2 → lv_has ls 3 [(0, .ref (G.1 a0)), (1, .int x1), (2, .int w.1)] → W p l e (zR 0) s m args below meth c H locs 0 0 (MQ below (zQv G K h') args s 0 0 (zA G K)) (F0 m 28 ls [])) (u : Int32 × zH) (hm : g_Model_begin_28 a0 x1 k28 u = some h') {H : Heap} {locs : List Loc} {ls : Array Slot} (hI : zI G K s (zA G K) H locs u.2) (hl : lv_has ls 3 [(0, .ref (G.1 a0)), (1, .int x1), (2, .int u.1)]) : W p l e (zR 0) s m args below meth c H locs 0 0 (MQ below (zQv G K h') args s 0 0 (zA G K)) (F0 m 28 ls []) := by
  obtain ⟨hx, hb, hml, hown, hts, hr, hlocks, hK, hST, hNs⟩ := id X
  unfold g_Model_begin_28 at hm
  refine lv_iload_n hx hb d_Model_begin_28 rfl (lv_at hl 2 rfl) ?_
  refine lv_aload_n hx hb d_Model_begin_29 rfl (lv_at hl 0 rfl) ?_
  obtain ⟨v30, hv, hm⟩ := zbd hm
  refine z_getI X hI F_Model_78 hv d_Model_begin_30 ?_
  refine lv_icmp_ge (tgt := 69) hx hb d_Model_begin_33 (by decide) (fun hc33 => ?_) (fun hc33 => ?_)
  · replace hm := zif_t hc33 hm
    refine lv_aload_n hx hb d_Model_begin_69 rfl (lv_at hl 0 rfl) ?_
    obtain ⟨v70, hv, hm⟩ := zbd hm
    refine z_getR X hI F_Model_22 hv d_Model_begin_70 ?_
    refine lv_iconst (v := (nI 0)) hx hb d_Model_begin_73 (by decide) ?_
    refine lv_iconst (v := (nI 1)) hx hb d_Model_begin_74 (by decide) ?_
    obtain ⟨h75, hv, hm⟩ := zbd hm
    refine z_iast X hI hv d_Model_begin_75 (fun H locs hI => ?_)
    refine lv_aload_n hx hb d_Model_begin_76 rfl (lv_at hl 0 rfl) ?_
    obtain ⟨v77, hv, hm⟩ := zbd hm
    refine z_getR X hI F_Model_22 hv d_Model_begin_77 ?_
    refine lv_iconst (v := (nI 1)) hx hb d_Model_begin_80 (by decide) ?_
    refine lv_iconst (v := (nI 1)) hx hb d_Model_begin_81 (by decide) ?_
    obtain ⟨h82, hv, hm⟩ := zbd hm
    refine z_iast X hI hv d_Model_begin_82 (fun H locs hI => ?_)
    refine lv_iload_n hx hb d_Model_begin_83 rfl (lv_at hl 1 rfl) ?_
    refine lv_iconst (v := (nI 1)) hx hb d_Model_begin_84 (by decide) ?_
    refine lv_icmp_ne (tgt := 105) hx hb d_Model_begin_85 (by decide) (fun hc85 => ?_) (fun hc85 => ?_)
    · replace hm := zif_f hc85 hm
      exact r_Model_begin_105 X a0 x1 h82 hm hI (lv_sub hl [0, 1] rfl)
    · replace hm := zif_t hc85 hm
      refine lv_aload_n hx hb d_Model_begin_88 rfl (lv_at hl 0 rfl) ?_
      obtain ⟨v89, hv, hm⟩ := zbd hm
      refine z_getR X hI F_Model_22 hv d_Model_begin_89 ?_
      refine lv_iconst (v := (nI 3)) hx hb d_Model_begin_92 (by decide) ?_
      refine lv_bipush (v := (nI 64)) hx hb d_Model_begin_93 (by decide) ?_
      obtain ⟨h95, hv, hm⟩ := zbd hm
      refine z_iast X hI hv d_Model_begin_95 (fun H locs hI => ?_)
      refine lv_aload_n hx hb d_Model_begin_96 rfl (lv_at hl 0 rfl) ?_
      obtain ⟨v97, hv, hm⟩ := zbd hm
      refine z_getR X hI F_Model_22 hv d_Model_begin_97 ?_
      refine lv_bipush (v := (nI 86)) hx hb d_Model_begin_100 (by decide) ?_
      refine lv_bipush (v := (nI 64)) hx hb d_Model_begin_102 (by decide) ?_
      obtain ⟨h104, hv, hm⟩ := zbd hm
      refine z_iast X hI hv d_Model_begin_104 (fun H locs hI => ?_)
      exact r_Model_begin_105 X a0 x1 h104 hm hI (lv_sub hl [0, 1] rfl)
  · replace hm := zif_f hc33 hm
    refine lv_aload_n hx hb d_Model_begin_36 rfl (lv_at hl 0 rfl) ?_
    obtain ⟨v37, hv, hm⟩ := zbd hm
    refine z_getR X hI F_Model_22 hv d_Model_begin_37 ?_
    refine lv_bipush (v := (nI 6)) hx hb d_Model_begin_40 (by decide) ?_
    refine lv_iload_n hx hb d_Model_begin_42 rfl (lv_at hl 2 rfl) ?_
    refine lv_imul hx hb d_Model_begin_43 ?_
    refine lv_iconst (v := (nI 4)) hx hb d_Model_begin_44 (by decide) ?_
    refine lv_iadd hx hb d_Model_begin_45 ?_
    refine lv_iload_n hx hb d_Model_begin_46 rfl (lv_at hl 1 rfl) ?_
    refine lv_iconst (v := (nI 2)) hx hb d_Model_begin_47 (by decide) ?_
    refine lv_icmp_eq (tgt := 57) hx hb d_Model_begin_48 (by decide) (fun hc48 => ?_) (fun hc48 => ?_)
    · replace hm := zif_t hc48 hm
      refine lv_iconst (v := (-1 : Int32)) hx hb d_Model_begin_57 (by decide) ?_
      refine lv_goto (tgt := 62) hx hb d_Model_begin_58 (by decide) ?_
      obtain ⟨h62, hv, hm⟩ := zbd hm
      refine z_iast X hI hv d_Model_begin_62 (fun H locs hI => ?_)
      refine lv_iinc (v := (u.1 + (nI 1))) (lv' := [(2, .int (u.1 + (nI 1))), (0, .ref (G.1 a0)), (1, .int x1)]) hx hb d_Model_begin_63 hl (k := 2) rfl (congrArg (fun z => u.1 + z) (show Int32.ofInt (1) = (nI 1) by decide)) (by decide) rfl (fun ls hl => ?_)
      refine lv_goto (tgt := 28) hx hb d_Model_begin_66 (by decide) ?_
      obtain ⟨g0, e0⟩ : ∃ z, z = (u.1 + (nI 1)) := ⟨_, rfl⟩
      rw [← e0] at hm hl
      exact hk28 (g0, h62) hm _ _ _ hI (lv_sub hl [1, 2, 0] rfl)
    · replace hm := zif_f hc48 hm
      refine lv_iload_n hx hb d_Model_begin_51 rfl (lv_at hl 1 rfl) ?_
      refine lv_bipush (v := (nI 6)) hx hb d_Model_begin_52 (by decide) ?_
      refine lv_icmp_ne (tgt := 61) hx hb d_Model_begin_54 (by decide) (fun hc54 => ?_) (fun hc54 => ?_)
      · replace hm := zif_f hc54 hm
        refine lv_iconst (v := (nI 0)) hx hb d_Model_begin_61 (by decide) ?_
        obtain ⟨h62, hv, hm⟩ := zbd hm
        refine z_iast X hI hv d_Model_begin_62 (fun H locs hI => ?_)
        refine lv_iinc (v := (u.1 + (nI 1))) (lv' := [(2, .int (u.1 + (nI 1))), (0, .ref (G.1 a0)), (1, .int x1)]) hx hb d_Model_begin_63 hl (k := 2) rfl (congrArg (fun z => u.1 + z) (show Int32.ofInt (1) = (nI 1) by decide)) (by decide) rfl (fun ls hl => ?_)
        refine lv_goto (tgt := 28) hx hb d_Model_begin_66 (by decide) ?_
        obtain ⟨g0, e0⟩ : ∃ z, z = (u.1 + (nI 1)) := ⟨_, rfl⟩
        rw [← e0] at hm hl
        exact hk28 (g0, h62) hm _ _ _ hI (lv_sub hl [1, 2, 0] rfl)
      · replace hm := zif_t hc54 hm
        refine lv_iconst (v := (-1 : Int32)) hx hb d_Model_begin_57 (by decide) ?_
        refine lv_goto (tgt := 62) hx hb d_Model_begin_58 (by decide) ?_
        obtain ⟨h62, hv, hm⟩ := zbd hm
        refine z_iast X hI hv d_Model_begin_62 (fun H locs hI => ?_)
        refine lv_iinc (v := (u.1 + (nI 1))) (lv' := [(2, .int (u.1 + (nI 1))), (0, .ref (G.1 a0)), (1, .int x1)]) hx hb d_Model_begin_63 hl (k := 2) rfl (congrArg (fun z => u.1 + z) (show Int32.ofInt (1) = (nI 1) by decide)) (by decide) rfl (fun ls hl => ?_)
        refine lv_goto (tgt := 28) hx hb d_Model_begin_66 (by decide) ?_
        obtain ⟨g0, e0⟩ : ∃ z, z = (u.1 + (nI 1)) := ⟨_, rfl⟩
        rw [← e0] at hm hl
        exact hk28 (g0, h62) hm _ _ _ hI (lv_sub hl [1, 2, 0] rfl)
theorem r_Model_begin_28 {p : Program} {l : Launch} {e : Env} {s : State} {m : MethodId} {args : Array Value} {below : List Frame} {meth : Method} {c : Code} {G : zG} {K : Nat} (X : zX p s m args meth c "AllHomeModel" prog_9_method_17_code 3 none G (zA G K)) {h' : zH} (a0 : Nat) (x1 : Int32) : ∀ (n : Nat) (w : Int32 × zH), zloop (g_Model_begin_28 a0 x1) n w = some h' → ∀ (H : Heap) (locs : List Loc) (ls : Array Slot), zI G K s (zA G K) H locs w.2 → lv_has ls 3 [(0, .ref (G.1 a0)), (1, .int x1), (2, .int w.1)] → W p l e (zR 0) s m args below meth c H locs 0 0 (MQ below (zQv G K h') args s 0 0 (zA G K)) (F0 m 28 ls []) := by
  intro n
  induction n with
  | zero => intro w hm; cases hm
  | succ n ih => intro w hm H locs ls hI hl; exact r_Model_begin_28_b X a0 x1 (zloop (g_Model_begin_28 a0 x1) n) ih w (zls hm) hI hl
set_option maxHeartbeats 4000000 in
set_option maxRecDepth 100000 in
theorem r_Model_begin_7_b {p : Program} {l : Launch} {e : Env} {s : State} {m : MethodId} {args : Array Value} {below : List Frame} {meth : Method} {c : Code} {G : zG} {K : Nat} (X : zX p s m args meth c "AllHomeModel" prog_9_method_17_code 3 none G (zA G K)) {h' : zH} (a0 : Nat) (x1 : Int32) (k7 : (Int32 × zH) → Option zH) (hk7 : ∀ (w : Int32 × zH), k7 w = some h' → ∀ (H : Heap) (locs : List Loc) (ls : Array Slot), zI G K s (zA G K) H locs w.2 → lv_has ls 3 [(0, .ref (G.1 a0)), (1, .int x1), (2, .int w.1)] → W p l e (zR 0) s m args below meth c H locs 0 0 (MQ below (zQv G K h') args s 0 0 (zA G K)) (F0 m 7 ls [])) (u : Int32 × zH) (hm : g_Model_begin_7 a0 x1 k7 u = some h') {H : Heap} {locs : List Loc} {ls : Array Slot} (hI : zI G K s (zA G K) H locs u.2) (hl : lv_has ls 3 [(0, .ref (G.1 a0)), (1, .int x1), (2, .int u.1)]) : W p l e (zR 0) s m args below meth c H locs 0 0 (MQ below (zQv G K h') args s 0 0 (zA G K)) (F0 m 7 ls []) := by
  obtain ⟨hx, hb, hml, hown, hts, hr, hlocks, hK, hST, hNs⟩ := id X
  unfold g_Model_begin_7 at hm
  refine lv_iload_n hx hb d_Model_begin_7 rfl (lv_at hl 2 rfl) ?_
  refine lv_bipush (v := (nI 91)) hx hb d_Model_begin_8 (by decide) ?_
  refine lv_icmp_ge (tgt := 26) hx hb d_Model_begin_10 (by decide) (fun hc10 => ?_) (fun hc10 => ?_)
  · replace hm := zif_t hc10 hm
    refine lv_iconst (v := (nI 0)) hx hb d_Model_begin_26 (by decide) ?_
    refine lv_istore_n (lv' := [(2, .int (nI 0)), (0, .ref (G.1 a0)), (1, .int x1)]) hx hb d_Model_begin_27 rfl hl (by decide) rfl (fun ls hl => ?_)
    obtain ⟨g1, e1⟩ : ∃ z, z = u.2 := ⟨_, rfl⟩
    rw [← e1] at hm hI
    exact r_Model_begin_28 X a0 x1 zN ((nI 0), g1) hm _ _ _ hI (lv_sub hl [1, 2, 0] rfl)
  · replace hm := zif_f hc10 hm
    refine lv_aload_n hx hb d_Model_begin_13 rfl (lv_at hl 0 rfl) ?_
    obtain ⟨v14, hv, hm⟩ := zbd hm
    refine z_getR X hI F_Model_22 hv d_Model_begin_14 ?_
    refine lv_iload_n hx hb d_Model_begin_17 rfl (lv_at hl 2 rfl) ?_
    refine lv_iconst (v := (nI 0)) hx hb d_Model_begin_18 (by decide) ?_
    obtain ⟨h19, hv, hm⟩ := zbd hm
    refine z_iast X hI hv d_Model_begin_19 (fun H locs hI => ?_)
    refine lv_iinc (v := (u.1 + (nI 1))) (lv' := [(2, .int (u.1 + (nI 1))), (0, .ref (G.1 a0)), (1, .int x1)]) hx hb d_Model_begin_20 hl (k := 2) rfl (congrArg (fun z => u.1 + z) (show Int32.ofInt (1) = (nI 1) by decide)) (by decide) rfl (fun ls hl => ?_)
    refine lv_goto (tgt := 7) hx hb d_Model_begin_23 (by decide) ?_
    obtain ⟨g0, e0⟩ : ∃ z, z = (u.1 + (nI 1)) := ⟨_, rfl⟩
    rw [← e0] at hm hl
    exact hk7 (g0, h19) hm _ _ _ hI (lv_sub hl [1, 2, 0] rfl)
theorem r_Model_begin_7 {p : Program} {l : Launch} {e : Env} {s : State} {m : MethodId} {args : Array Value} {below : List Frame} {meth : Method} {c : Code} {G : zG} {K : Nat} (X : zX p s m args meth c "AllHomeModel" prog_9_method_17_code 3 none G (zA G K)) {h' : zH} (a0 : Nat) (x1 : Int32) : ∀ (n : Nat) (w : Int32 × zH), zloop (g_Model_begin_7 a0 x1) n w = some h' → ∀ (H : Heap) (locs : List Loc) (ls : Array Slot), zI G K s (zA G K) H locs w.2 → lv_has ls 3 [(0, .ref (G.1 a0)), (1, .int x1), (2, .int w.1)] → W p l e (zR 0) s m args below meth c H locs 0 0 (MQ below (zQv G K h') args s 0 0 (zA G K)) (F0 m 7 ls []) := by
  intro n
  induction n with
  | zero => intro w hm; cases hm
  | succ n ih => intro w hm H locs ls hI hl; exact r_Model_begin_7_b X a0 x1 (zloop (g_Model_begin_7 a0 x1) n) ih w (zls hm) hI hl
set_option maxHeartbeats 4000000 in
set_option maxRecDepth 100000 in
theorem r_Model_begin_0 {p : Program} {l : Launch} {e : Env} {s : State} {m : MethodId} {args : Array Value} {below : List Frame} {meth : Method} {c : Code} {G : zG} {K : Nat} (X : zX p s m args meth c "AllHomeModel" prog_9_method_17_code 3 none G (zA G K)) {h' : zH} (a0 : Nat) (x1 : Int32) (h : zH) (hm : m_Model_begin a0 x1 h = some h') {H : Heap} {locs : List Loc} {ls : Array Slot} (hI : zI G K s (zA G K) H locs h) (hl : lv_has ls 3 [(0, .ref (G.1 a0)), (1, .int x1)]) : W p l e (zR 0) s m args below meth c H locs 0 0 (MQ below (zQv G K h') args s 0 0 (zA G K)) (F0 m 0 ls []) := by
  obtain ⟨hx, hb, hml, hown, hts, hr, hlocks, hK, hST, hNs⟩ := id X
  unfold m_Model_begin at hm
  refine lv_aload_n hx hb d_Model_begin_0 rfl (lv_at hl 0 rfl) ?_
  refine lv_iload_n hx hb d_Model_begin_1 rfl (lv_at hl 1 rfl) ?_
  obtain ⟨h2, hv, hm⟩ := zbd hm
  refine z_putI X hI P_Model_134 hv d_Model_begin_2 (fun H locs hI => ?_)
  refine lv_iconst (v := (nI 0)) hx hb d_Model_begin_5 (by decide) ?_
  refine lv_istore_n (lv' := [(2, .int (nI 0)), (0, .ref (G.1 a0)), (1, .int x1)]) hx hb d_Model_begin_6 rfl hl (by decide) rfl (fun ls hl => ?_)
  exact r_Model_begin_7 X a0 x1 zN ((nI 0), h2) hm _ _ _ hI (lv_sub hl [1, 2, 0] rfl)
set_option maxHeartbeats 4000000 in
set_option maxRecDepth 100000 in
theorem c_Model_begin (l : Launch) (G : zG) (K : Nat) (a0 : Nat) (x1 : Int32) (h : zH) (h' : zH) (hm : m_Model_begin a0 x1 h = some h') : zMv l G K y_Model_begin prog_9_method_17_code 3 0 [.ref (G.1 a0), .int x1] h h' := zMet (by decide +kernel) (Nat.le_of_ble_eq_true rfl) (fun p e s m below meth c ls X hI hl => r_Model_begin_0 X a0 x1 h hm hI hl)
-- walk of AllHomeModel.of
theorem d_Model_of_0 : decode prog_9_method_18_code 0 = .ok (.aload_n 0, 1) := by decide +kernel
theorem d_Model_of_1 : decode prog_9_method_18_code 1 = .ok (.getfield 22, 3) := by decide +kernel
theorem d_Model_of_4 : decode prog_9_method_18_code 4 = .ok (.bipush 6, 2) := by decide +kernel
theorem d_Model_of_6 : decode prog_9_method_18_code 6 = .ok (.iload_n 1, 1) := by decide +kernel
theorem d_Model_of_7 : decode prog_9_method_18_code 7 = .ok (.imul, 1) := by decide +kernel
theorem d_Model_of_8 : decode prog_9_method_18_code 8 = .ok (.iload_n 2, 1) := by decide +kernel
theorem d_Model_of_9 : decode prog_9_method_18_code 9 = .ok (.iadd, 1) := by decide +kernel
theorem d_Model_of_10 : decode prog_9_method_18_code 10 = .ok (.iaload, 1) := by decide +kernel
theorem d_Model_of_11 : decode prog_9_method_18_code 11 = .ok (.ireturn, 1) := by decide +kernel
set_option maxHeartbeats 4000000 in
set_option maxRecDepth 100000 in
theorem r_Model_of_0 {p : Program} {l : Launch} {e : Env} {s : State} {m : MethodId} {args : Array Value} {below : List Frame} {meth : Method} {c : Code} {G : zG} {K : Nat} (X : zX p s m args meth c "AllHomeModel" prog_9_method_18_code 3 (some .int) G (zA G K)) {r : Int32} (a0 : Nat) (x1 : Int32) (x2 : Int32) (h : zH) (hm : m_Model_of a0 x1 x2 h = some r) {H : Heap} {locs : List Loc} {ls : Array Slot} (hI : zI G K s (zA G K) H locs h) (hl : lv_has ls 3 [(0, .ref (G.1 a0)), (1, .int x1), (2, .int x2)]) : W p l e (zR 0) s m args below meth c H locs 0 0 (MQ below (zQi G K r h) args s 0 0 (zA G K)) (F0 m 0 ls []) := by
  obtain ⟨hx, hb, hml, hown, hts, hr, hlocks, hK, hST, hNs⟩ := id X
  unfold m_Model_of at hm
  refine lv_aload_n hx hb d_Model_of_0 rfl (lv_at hl 0 rfl) ?_
  obtain ⟨v1, hv, hm⟩ := zbd hm
  refine z_getR X hI F_Model_22 hv d_Model_of_1 ?_
  refine lv_bipush (v := (nI 6)) hx hb d_Model_of_4 (by decide) ?_
  refine lv_iload_n hx hb d_Model_of_6 rfl (lv_at hl 1 rfl) ?_
  refine lv_imul hx hb d_Model_of_7 ?_
  refine lv_iload_n hx hb d_Model_of_8 rfl (lv_at hl 2 rfl) ?_
  refine lv_iadd hx hb d_Model_of_9 ?_
  obtain ⟨v10, hv, hm⟩ := zbd hm
  refine z_iald X hI hv d_Model_of_10 ?_
  obtain rfl := zs1 hm
  exact z_iret X hI d_Model_of_11
set_option maxHeartbeats 4000000 in
set_option maxRecDepth 100000 in
theorem c_Model_of (l : Launch) (G : zG) (K : Nat) (a0 : Nat) (x1 : Int32) (x2 : Int32) (h : zH) (r : Int32) (hm : m_Model_of a0 x1 x2 h = some r) : zMi l G K y_Model_of prog_9_method_18_code 3 0 [.ref (G.1 a0), .int x1, .int x2] h r h := zMet (by decide +kernel) (Nat.le_of_ble_eq_true rfl) (fun p e s m below meth c ls X hI hl => r_Model_of_0 X a0 x1 x2 h hm hI hl)
-- walk of AllHomeModel.add
theorem d_Model_add_0 : decode prog_9_method_19_code 0 = .ok (.aload_n 0, 1) := by decide +kernel
theorem d_Model_add_1 : decode prog_9_method_19_code 1 = .ok (.getfield 22, 3) := by decide +kernel
theorem d_Model_add_4 : decode prog_9_method_19_code 4 = .ok (.bipush 6, 2) := by decide +kernel
theorem d_Model_add_6 : decode prog_9_method_19_code 6 = .ok (.iload_n 1, 1) := by decide +kernel
theorem d_Model_add_7 : decode prog_9_method_19_code 7 = .ok (.imul, 1) := by decide +kernel
theorem d_Model_add_8 : decode prog_9_method_19_code 8 = .ok (.iload_n 2, 1) := by decide +kernel
theorem d_Model_add_9 : decode prog_9_method_19_code 9 = .ok (.iadd, 1) := by decide +kernel
theorem d_Model_add_10 : decode prog_9_method_19_code 10 = .ok (.dup2, 1) := by decide +kernel
theorem d_Model_add_11 : decode prog_9_method_19_code 11 = .ok (.iaload, 1) := by decide +kernel
theorem d_Model_add_12 : decode prog_9_method_19_code 12 = .ok (.iload_n 3, 1) := by decide +kernel
theorem d_Model_add_13 : decode prog_9_method_19_code 13 = .ok (.iadd, 1) := by decide +kernel
theorem d_Model_add_14 : decode prog_9_method_19_code 14 = .ok (.iastore, 1) := by decide +kernel
theorem d_Model_add_15 : decode prog_9_method_19_code 15 = .ok (.return_, 1) := by decide +kernel
set_option maxHeartbeats 4000000 in
set_option maxRecDepth 100000 in
theorem r_Model_add_0 {p : Program} {l : Launch} {e : Env} {s : State} {m : MethodId} {args : Array Value} {below : List Frame} {meth : Method} {c : Code} {G : zG} {K : Nat} (X : zX p s m args meth c "AllHomeModel" prog_9_method_19_code 4 none G (zA G K)) {h' : zH} (a0 : Nat) (x1 : Int32) (x2 : Int32) (x3 : Int32) (h : zH) (hm : m_Model_add a0 x1 x2 x3 h = some h') {H : Heap} {locs : List Loc} {ls : Array Slot} (hI : zI G K s (zA G K) H locs h) (hl : lv_has ls 4 [(0, .ref (G.1 a0)), (1, .int x1), (2, .int x2), (3, .int x3)]) : W p l e (zR 0) s m args below meth c H locs 0 0 (MQ below (zQv G K h') args s 0 0 (zA G K)) (F0 m 0 ls []) := by
  obtain ⟨hx, hb, hml, hown, hts, hr, hlocks, hK, hST, hNs⟩ := id X
  unfold m_Model_add at hm
  refine lv_aload_n hx hb d_Model_add_0 rfl (lv_at hl 0 rfl) ?_
  obtain ⟨v1, hv, hm⟩ := zbd hm
  refine z_getR X hI F_Model_22 hv d_Model_add_1 ?_
  refine lv_bipush (v := (nI 6)) hx hb d_Model_add_4 (by decide) ?_
  refine lv_iload_n hx hb d_Model_add_6 rfl (lv_at hl 1 rfl) ?_
  refine lv_imul hx hb d_Model_add_7 ?_
  refine lv_iload_n hx hb d_Model_add_8 rfl (lv_at hl 2 rfl) ?_
  refine lv_iadd hx hb d_Model_add_9 ?_
  refine lv_dup2_11 hx hb d_Model_add_10 rfl rfl ?_
  obtain ⟨v11, hv, hm⟩ := zbd hm
  refine z_iald X hI hv d_Model_add_11 ?_
  refine lv_iload_n hx hb d_Model_add_12 rfl (lv_at hl 3 rfl) ?_
  refine lv_iadd hx hb d_Model_add_13 ?_
  obtain ⟨h14, hv, hm⟩ := zbd hm
  refine z_iast X hI hv d_Model_add_14 (fun H locs hI => ?_)
  obtain rfl := zs1 hm
  exact z_vret X hI d_Model_add_15
set_option maxHeartbeats 4000000 in
set_option maxRecDepth 100000 in
theorem c_Model_add (l : Launch) (G : zG) (K : Nat) (a0 : Nat) (x1 : Int32) (x2 : Int32) (x3 : Int32) (h : zH) (h' : zH) (hm : m_Model_add a0 x1 x2 x3 h = some h') : zMv l G K y_Model_add prog_9_method_19_code 4 0 [.ref (G.1 a0), .int x1, .int x2, .int x3] h h' := zMet (by decide +kernel) (Nat.le_of_ble_eq_true rfl) (fun p e s m below meth c ls X hI hl => r_Model_add_0 X a0 x1 x2 x3 h hm hI hl)
-- walk of AllHomeModel.become
theorem d_Model_become_0 : decode prog_9_method_20_code 0 = .ok (.aload_n 0, 1) := by decide +kernel
theorem d_Model_become_1 : decode prog_9_method_20_code 1 = .ok (.getfield 22, 3) := by decide +kernel
theorem d_Model_become_4 : decode prog_9_method_20_code 4 = .ok (.bipush 6, 2) := by decide +kernel
theorem d_Model_become_6 : decode prog_9_method_20_code 6 = .ok (.iload_n 1, 1) := by decide +kernel
theorem d_Model_become_7 : decode prog_9_method_20_code 7 = .ok (.imul, 1) := by decide +kernel
theorem d_Model_become_8 : decode prog_9_method_20_code 8 = .ok (.iload_n 2, 1) := by decide +kernel
theorem d_Model_become_9 : decode prog_9_method_20_code 9 = .ok (.iadd, 1) := by decide +kernel
theorem d_Model_become_10 : decode prog_9_method_20_code 10 = .ok (.iload_n 3, 1) := by decide +kernel
theorem d_Model_become_11 : decode prog_9_method_20_code 11 = .ok (.iastore, 1) := by decide +kernel
theorem d_Model_become_12 : decode prog_9_method_20_code 12 = .ok (.return_, 1) := by decide +kernel
set_option maxHeartbeats 4000000 in
set_option maxRecDepth 100000 in
theorem r_Model_become_0 {p : Program} {l : Launch} {e : Env} {s : State} {m : MethodId} {args : Array Value} {below : List Frame} {meth : Method} {c : Code} {G : zG} {K : Nat} (X : zX p s m args meth c "AllHomeModel" prog_9_method_20_code 4 none G (zA G K)) {h' : zH} (a0 : Nat) (x1 : Int32) (x2 : Int32) (x3 : Int32) (h : zH) (hm : m_Model_become a0 x1 x2 x3 h = some h') {H : Heap} {locs : List Loc} {ls : Array Slot} (hI : zI G K s (zA G K) H locs h) (hl : lv_has ls 4 [(0, .ref (G.1 a0)), (1, .int x1), (2, .int x2), (3, .int x3)]) : W p l e (zR 0) s m args below meth c H locs 0 0 (MQ below (zQv G K h') args s 0 0 (zA G K)) (F0 m 0 ls []) := by
  obtain ⟨hx, hb, hml, hown, hts, hr, hlocks, hK, hST, hNs⟩ := id X
  unfold m_Model_become at hm
  refine lv_aload_n hx hb d_Model_become_0 rfl (lv_at hl 0 rfl) ?_
  obtain ⟨v1, hv, hm⟩ := zbd hm
  refine z_getR X hI F_Model_22 hv d_Model_become_1 ?_
  refine lv_bipush (v := (nI 6)) hx hb d_Model_become_4 (by decide) ?_
  refine lv_iload_n hx hb d_Model_become_6 rfl (lv_at hl 1 rfl) ?_
  refine lv_imul hx hb d_Model_become_7 ?_
  refine lv_iload_n hx hb d_Model_become_8 rfl (lv_at hl 2 rfl) ?_
  refine lv_iadd hx hb d_Model_become_9 ?_
  refine lv_iload_n hx hb d_Model_become_10 rfl (lv_at hl 3 rfl) ?_
  obtain ⟨h11, hv, hm⟩ := zbd hm
  refine z_iast X hI hv d_Model_become_11 (fun H locs hI => ?_)
  obtain rfl := zs1 hm
  exact z_vret X hI d_Model_become_12
set_option maxHeartbeats 4000000 in
set_option maxRecDepth 100000 in
theorem c_Model_become (l : Launch) (G : zG) (K : Nat) (a0 : Nat) (x1 : Int32) (x2 : Int32) (x3 : Int32) (h : zH) (h' : zH) (hm : m_Model_become a0 x1 x2 x3 h = some h') : zMv l G K y_Model_become prog_9_method_20_code 4 0 [.ref (G.1 a0), .int x1, .int x2, .int x3] h h' := zMet (by decide +kernel) (Nat.le_of_ble_eq_true rfl) (fun p e s m below meth c ls X hI hl => r_Model_become_0 X a0 x1 x2 x3 h hm hI hl)
-- walk of AllHomeModel.words
theorem d_Model_words_0 : decode prog_9_method_21_code 0 = .ok (.aload_n 0, 1) := by decide +kernel
theorem d_Model_words_1 : decode prog_9_method_21_code 1 = .ok (.getfield 22, 3) := by decide +kernel
theorem d_Model_words_4 : decode prog_9_method_21_code 4 = .ok (.bipush 36, 2) := by decide +kernel
theorem d_Model_words_6 : decode prog_9_method_21_code 6 = .ok (.iaload, 1) := by decide +kernel
theorem d_Model_words_7 : decode prog_9_method_21_code 7 = .ok (.ireturn, 1) := by decide +kernel
set_option maxHeartbeats 4000000 in
set_option maxRecDepth 100000 in
theorem r_Model_words_0 {p : Program} {l : Launch} {e : Env} {s : State} {m : MethodId} {args : Array Value} {below : List Frame} {meth : Method} {c : Code} {G : zG} {K : Nat} (X : zX p s m args meth c "AllHomeModel" prog_9_method_21_code 1 (some .int) G (zA G K)) {r : Int32} (a0 : Nat) (h : zH) (hm : m_Model_words a0 h = some r) {H : Heap} {locs : List Loc} {ls : Array Slot} (hI : zI G K s (zA G K) H locs h) (hl : lv_has ls 1 [(0, .ref (G.1 a0))]) : W p l e (zR 0) s m args below meth c H locs 0 0 (MQ below (zQi G K r h) args s 0 0 (zA G K)) (F0 m 0 ls []) := by
  obtain ⟨hx, hb, hml, hown, hts, hr, hlocks, hK, hST, hNs⟩ := id X
  unfold m_Model_words at hm
  refine lv_aload_n hx hb d_Model_words_0 rfl (lv_at hl 0 rfl) ?_
  obtain ⟨v1, hv, hm⟩ := zbd hm
  refine z_getR X hI F_Model_22 hv d_Model_words_1 ?_
  refine lv_bipush (v := (nI 36)) hx hb d_Model_words_4 (by decide) ?_
  obtain ⟨v6, hv, hm⟩ := zbd hm
  refine z_iald X hI hv d_Model_words_6 ?_
  obtain rfl := zs1 hm
  exact z_iret X hI d_Model_words_7
set_option maxHeartbeats 4000000 in
set_option maxRecDepth 100000 in
theorem c_Model_words (l : Launch) (G : zG) (K : Nat) (a0 : Nat) (h : zH) (r : Int32) (hm : m_Model_words a0 h = some r) : zMi l G K y_Model_words prog_9_method_21_code 1 0 [.ref (G.1 a0)] h r h := zMet (by decide +kernel) (Nat.le_of_ble_eq_true rfl) (fun p e s m below meth c ls X hI hl => r_Model_words_0 X a0 h hm hI hl)
-- walk of AllHomeModel.notes
theorem d_Model_notes_0 : decode prog_9_method_22_code 0 = .ok (.aload_n 0, 1) := by decide +kernel
theorem d_Model_notes_1 : decode prog_9_method_22_code 1 = .ok (.getfield 22, 3) := by decide +kernel
theorem d_Model_notes_4 : decode prog_9_method_22_code 4 = .ok (.bipush 61, 2) := by decide +kernel
theorem d_Model_notes_6 : decode prog_9_method_22_code 6 = .ok (.iaload, 1) := by decide +kernel
theorem d_Model_notes_7 : decode prog_9_method_22_code 7 = .ok (.ireturn, 1) := by decide +kernel
set_option maxHeartbeats 4000000 in
set_option maxRecDepth 100000 in
theorem r_Model_notes_0 {p : Program} {l : Launch} {e : Env} {s : State} {m : MethodId} {args : Array Value} {below : List Frame} {meth : Method} {c : Code} {G : zG} {K : Nat} (X : zX p s m args meth c "AllHomeModel" prog_9_method_22_code 1 (some .int) G (zA G K)) {r : Int32} (a0 : Nat) (h : zH) (hm : m_Model_notes a0 h = some r) {H : Heap} {locs : List Loc} {ls : Array Slot} (hI : zI G K s (zA G K) H locs h) (hl : lv_has ls 1 [(0, .ref (G.1 a0))]) : W p l e (zR 0) s m args below meth c H locs 0 0 (MQ below (zQi G K r h) args s 0 0 (zA G K)) (F0 m 0 ls []) := by
  obtain ⟨hx, hb, hml, hown, hts, hr, hlocks, hK, hST, hNs⟩ := id X
  unfold m_Model_notes at hm
  refine lv_aload_n hx hb d_Model_notes_0 rfl (lv_at hl 0 rfl) ?_
  obtain ⟨v1, hv, hm⟩ := zbd hm
  refine z_getR X hI F_Model_22 hv d_Model_notes_1 ?_
  refine lv_bipush (v := (nI 61)) hx hb d_Model_notes_4 (by decide) ?_
  obtain ⟨v6, hv, hm⟩ := zbd hm
  refine z_iald X hI hv d_Model_notes_6 ?_
  obtain rfl := zs1 hm
  exact z_iret X hI d_Model_notes_7
set_option maxHeartbeats 4000000 in
set_option maxRecDepth 100000 in
theorem c_Model_notes (l : Launch) (G : zG) (K : Nat) (a0 : Nat) (h : zH) (r : Int32) (hm : m_Model_notes a0 h = some r) : zMi l G K y_Model_notes prog_9_method_22_code 1 0 [.ref (G.1 a0)] h r h := zMet (by decide +kernel) (Nat.le_of_ble_eq_true rfl) (fun p e s m below meth c ls X hI hl => r_Model_notes_0 X a0 h hm hI hl)
-- walk of AllHomeModel.putLast
theorem d_Model_putLast_0 : decode prog_9_method_23_code 0 = .ok (.aload_n 0, 1) := by decide +kernel
theorem d_Model_putLast_1 : decode prog_9_method_23_code 1 = .ok (.getfield 22, 3) := by decide +kernel
theorem d_Model_putLast_4 : decode prog_9_method_23_code 4 = .ok (.iload_n 1, 1) := by decide +kernel
theorem d_Model_putLast_5 : decode prog_9_method_23_code 5 = .ok (.iaload, 1) := by decide +kernel
theorem d_Model_putLast_6 : decode prog_9_method_23_code 6 = .ok (.istore 5, 2) := by decide +kernel
theorem d_Model_putLast_8 : decode prog_9_method_23_code 8 = .ok (.iload 5, 2) := by decide +kernel
theorem d_Model_putLast_10 : decode prog_9_method_23_code 10 = .ok (.bipush 8, 2) := by decide +kernel
theorem d_Model_putLast_12 : decode prog_9_method_23_code 12 = .ok (.if_icmp .ne 9, 3) := by decide +kernel
theorem d_Model_putLast_15 : decode prog_9_method_23_code 15 = .ok (.aload_n 0, 1) := by decide +kernel
theorem d_Model_putLast_16 : decode prog_9_method_23_code 16 = .ok (.iconst 1, 1) := by decide +kernel
theorem d_Model_putLast_17 : decode prog_9_method_23_code 17 = .ok (.putfield 143, 3) := by decide +kernel
theorem d_Model_putLast_20 : decode prog_9_method_23_code 20 = .ok (.return_, 1) := by decide +kernel
theorem d_Model_putLast_21 : decode prog_9_method_23_code 21 = .ok (.aload_n 0, 1) := by decide +kernel
theorem d_Model_putLast_22 : decode prog_9_method_23_code 22 = .ok (.getfield 22, 3) := by decide +kernel
theorem d_Model_putLast_25 : decode prog_9_method_23_code 25 = .ok (.iload_n 1, 1) := by decide +kernel
theorem d_Model_putLast_26 : decode prog_9_method_23_code 26 = .ok (.iconst 1, 1) := by decide +kernel
theorem d_Model_putLast_27 : decode prog_9_method_23_code 27 = .ok (.iadd, 1) := by decide +kernel
theorem d_Model_putLast_28 : decode prog_9_method_23_code 28 = .ok (.iconst 3, 1) := by decide +kernel
theorem d_Model_putLast_29 : decode prog_9_method_23_code 29 = .ok (.iload 5, 2) := by decide +kernel
theorem d_Model_putLast_31 : decode prog_9_method_23_code 31 = .ok (.imul, 1) := by decide +kernel
theorem d_Model_putLast_32 : decode prog_9_method_23_code 32 = .ok (.iadd, 1) := by decide +kernel
theorem d_Model_putLast_33 : decode prog_9_method_23_code 33 = .ok (.iload_n 2, 1) := by decide +kernel
theorem d_Model_putLast_34 : decode prog_9_method_23_code 34 = .ok (.iastore, 1) := by decide +kernel
theorem d_Model_putLast_35 : decode prog_9_method_23_code 35 = .ok (.aload_n 0, 1) := by decide +kernel
theorem d_Model_putLast_36 : decode prog_9_method_23_code 36 = .ok (.getfield 22, 3) := by decide +kernel
theorem d_Model_putLast_39 : decode prog_9_method_23_code 39 = .ok (.iload_n 1, 1) := by decide +kernel
theorem d_Model_putLast_40 : decode prog_9_method_23_code 40 = .ok (.iconst 2, 1) := by decide +kernel
theorem d_Model_putLast_41 : decode prog_9_method_23_code 41 = .ok (.iadd, 1) := by decide +kernel
theorem d_Model_putLast_42 : decode prog_9_method_23_code 42 = .ok (.iconst 3, 1) := by decide +kernel
theorem d_Model_putLast_43 : decode prog_9_method_23_code 43 = .ok (.iload 5, 2) := by decide +kernel
theorem d_Model_putLast_45 : decode prog_9_method_23_code 45 = .ok (.imul, 1) := by decide +kernel
theorem d_Model_putLast_46 : decode prog_9_method_23_code 46 = .ok (.iadd, 1) := by decide +kernel
theorem d_Model_putLast_47 : decode prog_9_method_23_code 47 = .ok (.iload_n 3, 1) := by decide +kernel
theorem d_Model_putLast_48 : decode prog_9_method_23_code 48 = .ok (.iastore, 1) := by decide +kernel
theorem d_Model_putLast_49 : decode prog_9_method_23_code 49 = .ok (.aload_n 0, 1) := by decide +kernel
theorem d_Model_putLast_50 : decode prog_9_method_23_code 50 = .ok (.getfield 22, 3) := by decide +kernel
theorem d_Model_putLast_53 : decode prog_9_method_23_code 53 = .ok (.iload_n 1, 1) := by decide +kernel
theorem d_Model_putLast_54 : decode prog_9_method_23_code 54 = .ok (.iconst 3, 1) := by decide +kernel
theorem d_Model_putLast_55 : decode prog_9_method_23_code 55 = .ok (.iadd, 1) := by decide +kernel
theorem d_Model_putLast_56 : decode prog_9_method_23_code 56 = .ok (.iconst 3, 1) := by decide +kernel
theorem d_Model_putLast_57 : decode prog_9_method_23_code 57 = .ok (.iload 5, 2) := by decide +kernel
theorem d_Model_putLast_59 : decode prog_9_method_23_code 59 = .ok (.imul, 1) := by decide +kernel
theorem d_Model_putLast_60 : decode prog_9_method_23_code 60 = .ok (.iadd, 1) := by decide +kernel
theorem d_Model_putLast_61 : decode prog_9_method_23_code 61 = .ok (.iload 4, 2) := by decide +kernel
theorem d_Model_putLast_63 : decode prog_9_method_23_code 63 = .ok (.iastore, 1) := by decide +kernel
theorem d_Model_putLast_64 : decode prog_9_method_23_code 64 = .ok (.aload_n 0, 1) := by decide +kernel
theorem d_Model_putLast_65 : decode prog_9_method_23_code 65 = .ok (.getfield 22, 3) := by decide +kernel
theorem d_Model_putLast_68 : decode prog_9_method_23_code 68 = .ok (.iload_n 1, 1) := by decide +kernel
theorem d_Model_putLast_69 : decode prog_9_method_23_code 69 = .ok (.dup2, 1) := by decide +kernel
theorem d_Model_putLast_70 : decode prog_9_method_23_code 70 = .ok (.iaload, 1) := by decide +kernel
theorem d_Model_putLast_71 : decode prog_9_method_23_code 71 = .ok (.iconst 1, 1) := by decide +kernel
theorem d_Model_putLast_72 : decode prog_9_method_23_code 72 = .ok (.iadd, 1) := by decide +kernel
theorem d_Model_putLast_73 : decode prog_9_method_23_code 73 = .ok (.iastore, 1) := by decide +kernel
theorem d_Model_putLast_74 : decode prog_9_method_23_code 74 = .ok (.return_, 1) := by decide +kernel
set_option maxHeartbeats 4000000 in
set_option maxRecDepth 100000 in
theorem r_Model_putLast_0 {p : Program} {l : Launch} {e : Env} {s : State} {m : MethodId} {args : Array Value} {below : List Frame} {meth : Method} {c : Code} {G : zG} {K : Nat} (X : zX p s m args meth c "AllHomeModel" prog_9_method_23_code 6 none G (zA G K)) {h' : zH} (a0 : Nat) (x1 : Int32) (x2 : Int32) (x3 : Int32) (x4 : Int32) (h : zH) (hm : m_Model_putLast a0 x1 x2 x3 x4 h = some h') {H : Heap} {locs : List Loc} {ls : Array Slot} (hI : zI G K s (zA G K) H locs h) (hl : lv_has ls 6 [(0, .ref (G.1 a0)), (1, .int x1), (2, .int x2), (3, .int x3), (4, .int x4)]) : W p l e (zR 0) s m args below meth c H locs 0 0 (MQ below (zQv G K h') args s 0 0 (zA G K)) (F0 m 0 ls []) := by
  obtain ⟨hx, hb, hml, hown, hts, hr, hlocks, hK, hST, hNs⟩ := id X
  unfold m_Model_putLast at hm
  refine lv_aload_n hx hb d_Model_putLast_0 rfl (lv_at hl 0 rfl) ?_
  obtain ⟨v1, hv, hm⟩ := zbd hm
  refine z_getR X hI F_Model_22 hv d_Model_putLast_1 ?_
  refine lv_iload_n hx hb d_Model_putLast_4 rfl (lv_at hl 1 rfl) ?_
  obtain ⟨v5, hv, hm⟩ := zbd hm
  refine z_iald X hI hv d_Model_putLast_5 ?_
  refine lv_istore (lv' := [(5, .int v5), (0, .ref (G.1 a0)), (1, .int x1), (2, .int x2), (3, .int x3), (4, .int x4)]) hx hb d_Model_putLast_6 hl (by decide) rfl (fun ls hl => ?_)
  refine lv_iload hx hb d_Model_putLast_8 (lv_at hl 0 rfl) ?_
  refine lv_bipush (v := (nI 8)) hx hb d_Model_putLast_10 (by decide) ?_
  refine lv_icmp_ne (tgt := 21) hx hb d_Model_putLast_12 (by decide) (fun hc12 => ?_) (fun hc12 => ?_)
  · replace hm := zif_f hc12 hm
    refine lv_aload_n hx hb d_Model_putLast_21 rfl (lv_at hl 1 rfl) ?_
    obtain ⟨v22, hv, hm⟩ := zbd hm
    refine z_getR X hI F_Model_22 hv d_Model_putLast_22 ?_
    refine lv_iload_n hx hb d_Model_putLast_25 rfl (lv_at hl 2 rfl) ?_
    refine lv_iconst (v := (nI 1)) hx hb d_Model_putLast_26 (by decide) ?_
    refine lv_iadd hx hb d_Model_putLast_27 ?_
    refine lv_iconst (v := (nI 3)) hx hb d_Model_putLast_28 (by decide) ?_
    refine lv_iload hx hb d_Model_putLast_29 (lv_at hl 0 rfl) ?_
    refine lv_imul hx hb d_Model_putLast_31 ?_
    refine lv_iadd hx hb d_Model_putLast_32 ?_
    refine lv_iload_n hx hb d_Model_putLast_33 rfl (lv_at hl 3 rfl) ?_
    obtain ⟨h34, hv, hm⟩ := zbd hm
    refine z_iast X hI hv d_Model_putLast_34 (fun H locs hI => ?_)
    refine lv_aload_n hx hb d_Model_putLast_35 rfl (lv_at hl 1 rfl) ?_
    obtain ⟨v36, hv, hm⟩ := zbd hm
    refine z_getR X hI F_Model_22 hv d_Model_putLast_36 ?_
    refine lv_iload_n hx hb d_Model_putLast_39 rfl (lv_at hl 2 rfl) ?_
    refine lv_iconst (v := (nI 2)) hx hb d_Model_putLast_40 (by decide) ?_
    refine lv_iadd hx hb d_Model_putLast_41 ?_
    refine lv_iconst (v := (nI 3)) hx hb d_Model_putLast_42 (by decide) ?_
    refine lv_iload hx hb d_Model_putLast_43 (lv_at hl 0 rfl) ?_
    refine lv_imul hx hb d_Model_putLast_45 ?_
    refine lv_iadd hx hb d_Model_putLast_46 ?_
    refine lv_iload_n hx hb d_Model_putLast_47 rfl (lv_at hl 4 rfl) ?_
    obtain ⟨h48, hv, hm⟩ := zbd hm
    refine z_iast X hI hv d_Model_putLast_48 (fun H locs hI => ?_)
    refine lv_aload_n hx hb d_Model_putLast_49 rfl (lv_at hl 1 rfl) ?_
    obtain ⟨v50, hv, hm⟩ := zbd hm
    refine z_getR X hI F_Model_22 hv d_Model_putLast_50 ?_
    refine lv_iload_n hx hb d_Model_putLast_53 rfl (lv_at hl 2 rfl) ?_
    refine lv_iconst (v := (nI 3)) hx hb d_Model_putLast_54 (by decide) ?_
    refine lv_iadd hx hb d_Model_putLast_55 ?_
    refine lv_iconst (v := (nI 3)) hx hb d_Model_putLast_56 (by decide) ?_
    refine lv_iload hx hb d_Model_putLast_57 (lv_at hl 0 rfl) ?_
    refine lv_imul hx hb d_Model_putLast_59 ?_
    refine lv_iadd hx hb d_Model_putLast_60 ?_
    refine lv_iload hx hb d_Model_putLast_61 (lv_at hl 5 rfl) ?_
    obtain ⟨h63, hv, hm⟩ := zbd hm
    refine z_iast X hI hv d_Model_putLast_63 (fun H locs hI => ?_)
    refine lv_aload_n hx hb d_Model_putLast_64 rfl (lv_at hl 1 rfl) ?_
    obtain ⟨v65, hv, hm⟩ := zbd hm
    refine z_getR X hI F_Model_22 hv d_Model_putLast_65 ?_
    refine lv_iload_n hx hb d_Model_putLast_68 rfl (lv_at hl 2 rfl) ?_
    refine lv_dup2_11 hx hb d_Model_putLast_69 rfl rfl ?_
    obtain ⟨v70, hv, hm⟩ := zbd hm
    refine z_iald X hI hv d_Model_putLast_70 ?_
    refine lv_iconst (v := (nI 1)) hx hb d_Model_putLast_71 (by decide) ?_
    refine lv_iadd hx hb d_Model_putLast_72 ?_
    obtain ⟨h73, hv, hm⟩ := zbd hm
    refine z_iast X hI hv d_Model_putLast_73 (fun H locs hI => ?_)
    obtain rfl := zs1 hm
    exact z_vret X hI d_Model_putLast_74
  · replace hm := zif_t hc12 hm
    refine lv_aload_n hx hb d_Model_putLast_15 rfl (lv_at hl 1 rfl) ?_
    refine lv_iconst (v := (nI 1)) hx hb d_Model_putLast_16 (by decide) ?_
    obtain ⟨h17, hv, hm⟩ := zbd hm
    refine z_putZ X hI P_Model_143 hv d_Model_putLast_17 (fun H locs hI => ?_)
    obtain rfl := zs1 hm
    exact z_vret X hI d_Model_putLast_20
set_option maxHeartbeats 4000000 in
set_option maxRecDepth 100000 in
theorem c_Model_putLast (l : Launch) (G : zG) (K : Nat) (a0 : Nat) (x1 : Int32) (x2 : Int32) (x3 : Int32) (x4 : Int32) (h : zH) (h' : zH) (hm : m_Model_putLast a0 x1 x2 x3 x4 h = some h') : zMv l G K y_Model_putLast prog_9_method_23_code 6 0 [.ref (G.1 a0), .int x1, .int x2, .int x3, .int x4] h h' := zMet (by decide +kernel) (Nat.le_of_ble_eq_true rfl) (fun p e s m below meth c ls X hI hl => r_Model_putLast_0 X a0 x1 x2 x3 x4 h hm hI hl)
-- walk of AllHomeModel.takeOut
theorem d_Model_takeOut_0 : decode prog_9_method_24_code 0 = .ok (.aload_n 0, 1) := by decide +kernel
theorem d_Model_takeOut_1 : decode prog_9_method_24_code 1 = .ok (.getfield 22, 3) := by decide +kernel
theorem d_Model_takeOut_4 : decode prog_9_method_24_code 4 = .ok (.iload_n 1, 1) := by decide +kernel
theorem d_Model_takeOut_5 : decode prog_9_method_24_code 5 = .ok (.iaload, 1) := by decide +kernel
theorem d_Model_takeOut_6 : decode prog_9_method_24_code 6 = .ok (.iconst 1, 1) := by decide +kernel
theorem d_Model_takeOut_7 : decode prog_9_method_24_code 7 = .ok (.isub, 1) := by decide +kernel
theorem d_Model_takeOut_8 : decode prog_9_method_24_code 8 = .ok (.istore_n 3, 1) := by decide +kernel
theorem d_Model_takeOut_9 : decode prog_9_method_24_code 9 = .ok (.iconst 3, 1) := by decide +kernel
theorem d_Model_takeOut_10 : decode prog_9_method_24_code 10 = .ok (.iload_n 2, 1) := by decide +kernel
theorem d_Model_takeOut_11 : decode prog_9_method_24_code 11 = .ok (.imul, 1) := by decide +kernel
theorem d_Model_takeOut_12 : decode prog_9_method_24_code 12 = .ok (.istore 4, 2) := by decide +kernel
theorem d_Model_takeOut_14 : decode prog_9_method_24_code 14 = .ok (.iload 4, 2) := by decide +kernel
theorem d_Model_takeOut_16 : decode prog_9_method_24_code 16 = .ok (.iconst 3, 1) := by decide +kernel
theorem d_Model_takeOut_17 : decode prog_9_method_24_code 17 = .ok (.iload_n 3, 1) := by decide +kernel
theorem d_Model_takeOut_18 : decode prog_9_method_24_code 18 = .ok (.imul, 1) := by decide +kernel
theorem d_Model_takeOut_19 : decode prog_9_method_24_code 19 = .ok (.if_icmp .ge 31, 3) := by decide +kernel
theorem d_Model_takeOut_22 : decode prog_9_method_24_code 22 = .ok (.aload_n 0, 1) := by decide +kernel
theorem d_Model_takeOut_23 : decode prog_9_method_24_code 23 = .ok (.getfield 22, 3) := by decide +kernel
theorem d_Model_takeOut_26 : decode prog_9_method_24_code 26 = .ok (.iload_n 1, 1) := by decide +kernel
theorem d_Model_takeOut_27 : decode prog_9_method_24_code 27 = .ok (.iconst 1, 1) := by decide +kernel
theorem d_Model_takeOut_28 : decode prog_9_method_24_code 28 = .ok (.iadd, 1) := by decide +kernel
theorem d_Model_takeOut_29 : decode prog_9_method_24_code 29 = .ok (.iload 4, 2) := by decide +kernel
theorem d_Model_takeOut_31 : decode prog_9_method_24_code 31 = .ok (.iadd, 1) := by decide +kernel
theorem d_Model_takeOut_32 : decode prog_9_method_24_code 32 = .ok (.aload_n 0, 1) := by decide +kernel
theorem d_Model_takeOut_33 : decode prog_9_method_24_code 33 = .ok (.getfield 22, 3) := by decide +kernel
theorem d_Model_takeOut_36 : decode prog_9_method_24_code 36 = .ok (.iload_n 1, 1) := by decide +kernel
theorem d_Model_takeOut_37 : decode prog_9_method_24_code 37 = .ok (.iconst 4, 1) := by decide +kernel
theorem d_Model_takeOut_38 : decode prog_9_method_24_code 38 = .ok (.iadd, 1) := by decide +kernel
theorem d_Model_takeOut_39 : decode prog_9_method_24_code 39 = .ok (.iload 4, 2) := by decide +kernel
theorem d_Model_takeOut_41 : decode prog_9_method_24_code 41 = .ok (.iadd, 1) := by decide +kernel
theorem d_Model_takeOut_42 : decode prog_9_method_24_code 42 = .ok (.iaload, 1) := by decide +kernel
theorem d_Model_takeOut_43 : decode prog_9_method_24_code 43 = .ok (.iastore, 1) := by decide +kernel
theorem d_Model_takeOut_44 : decode prog_9_method_24_code 44 = .ok (.iinc 4 1, 3) := by decide +kernel
theorem d_Model_takeOut_47 : decode prog_9_method_24_code 47 = .ok (.goto (-33), 3) := by decide +kernel
theorem d_Model_takeOut_50 : decode prog_9_method_24_code 50 = .ok (.iconst 0, 1) := by decide +kernel
theorem d_Model_takeOut_51 : decode prog_9_method_24_code 51 = .ok (.istore 4, 2) := by decide +kernel
theorem d_Model_takeOut_53 : decode prog_9_method_24_code 53 = .ok (.iload 4, 2) := by decide +kernel
theorem d_Model_takeOut_55 : decode prog_9_method_24_code 55 = .ok (.iconst 3, 1) := by decide +kernel
theorem d_Model_takeOut_56 : decode prog_9_method_24_code 56 = .ok (.if_icmp .ge 25, 3) := by decide +kernel
theorem d_Model_takeOut_59 : decode prog_9_method_24_code 59 = .ok (.aload_n 0, 1) := by decide +kernel
theorem d_Model_takeOut_60 : decode prog_9_method_24_code 60 = .ok (.getfield 22, 3) := by decide +kernel
theorem d_Model_takeOut_63 : decode prog_9_method_24_code 63 = .ok (.iload_n 1, 1) := by decide +kernel
theorem d_Model_takeOut_64 : decode prog_9_method_24_code 64 = .ok (.iconst 1, 1) := by decide +kernel
theorem d_Model_takeOut_65 : decode prog_9_method_24_code 65 = .ok (.iadd, 1) := by decide +kernel
theorem d_Model_takeOut_66 : decode prog_9_method_24_code 66 = .ok (.iconst 3, 1) := by decide +kernel
theorem d_Model_takeOut_67 : decode prog_9_method_24_code 67 = .ok (.iload_n 3, 1) := by decide +kernel
theorem d_Model_takeOut_68 : decode prog_9_method_24_code 68 = .ok (.imul, 1) := by decide +kernel
theorem d_Model_takeOut_69 : decode prog_9_method_24_code 69 = .ok (.iadd, 1) := by decide +kernel
theorem d_Model_takeOut_70 : decode prog_9_method_24_code 70 = .ok (.iload 4, 2) := by decide +kernel
theorem d_Model_takeOut_72 : decode prog_9_method_24_code 72 = .ok (.iadd, 1) := by decide +kernel
theorem d_Model_takeOut_73 : decode prog_9_method_24_code 73 = .ok (.iconst 0, 1) := by decide +kernel
theorem d_Model_takeOut_74 : decode prog_9_method_24_code 74 = .ok (.iastore, 1) := by decide +kernel
theorem d_Model_takeOut_75 : decode prog_9_method_24_code 75 = .ok (.iinc 4 1, 3) := by decide +kernel
theorem d_Model_takeOut_78 : decode prog_9_method_24_code 78 = .ok (.goto (-25), 3) := by decide +kernel
theorem d_Model_takeOut_81 : decode prog_9_method_24_code 81 = .ok (.aload_n 0, 1) := by decide +kernel
theorem d_Model_takeOut_82 : decode prog_9_method_24_code 82 = .ok (.getfield 22, 3) := by decide +kernel
theorem d_Model_takeOut_85 : decode prog_9_method_24_code 85 = .ok (.iload_n 1, 1) := by decide +kernel
theorem d_Model_takeOut_86 : decode prog_9_method_24_code 86 = .ok (.iload_n 3, 1) := by decide +kernel
theorem d_Model_takeOut_87 : decode prog_9_method_24_code 87 = .ok (.iastore, 1) := by decide +kernel
theorem d_Model_takeOut_88 : decode prog_9_method_24_code 88 = .ok (.return_, 1) := by decide +kernel
set_option maxHeartbeats 4000000 in
set_option maxRecDepth 100000 in
theorem r_Model_takeOut_53_b {p : Program} {l : Launch} {e : Env} {s : State} {m : MethodId} {args : Array Value} {below : List Frame} {meth : Method} {c : Code} {G : zG} {K : Nat} (X : zX p s m args meth c "AllHomeModel" prog_9_method_24_code 5 none G (zA G K)) {h' : zH} (a0 : Nat) (x1 : Int32) (x3 : Int32) (k53 : (Int32 × zH) → Option zH) (hk53 : ∀ (w : Int32 × zH), k53 w = some h' → ∀ (H : Heap) (locs : List Loc) (ls : Array Slot), zI G K s (zA G K) H locs w.2 → lv_has ls 5 [(0, .ref (G.1 a0)), (1, .int x1), (3, .int x3), (4, .int w.1)] → W p l e (zR 0) s m args below meth c H locs 0 0 (MQ below (zQv G K h') args s 0 0 (zA G K)) (F0 m 53 ls [])) (u : Int32 × zH) (hm : g_Model_takeOut_53 a0 x1 x3 k53 u = some h') {H : Heap} {locs : List Loc} {ls : Array Slot} (hI : zI G K s (zA G K) H locs u.2) (hl : lv_has ls 5 [(0, .ref (G.1 a0)), (1, .int x1), (3, .int x3), (4, .int u.1)]) : W p l e (zR 0) s m args below meth c H locs 0 0 (MQ below (zQv G K h') args s 0 0 (zA G K)) (F0 m 53 ls []) := by
  obtain ⟨hx, hb, hml, hown, hts, hr, hlocks, hK, hST, hNs⟩ := id X
  unfold g_Model_takeOut_53 at hm
  refine lv_iload hx hb d_Model_takeOut_53 (lv_at hl 3 rfl) ?_
  refine lv_iconst (v := (nI 3)) hx hb d_Model_takeOut_55 (by decide) ?_
  refine lv_icmp_ge (tgt := 81) hx hb d_Model_takeOut_56 (by decide) (fun hc56 => ?_) (fun hc56 => ?_)
  · replace hm := zif_t hc56 hm
    refine lv_aload_n hx hb d_Model_takeOut_81 rfl (lv_at hl 0 rfl) ?_
    obtain ⟨v82, hv, hm⟩ := zbd hm
    refine z_getR X hI F_Model_22 hv d_Model_takeOut_82 ?_
    refine lv_iload_n hx hb d_Model_takeOut_85 rfl (lv_at hl 1 rfl) ?_
    refine lv_iload_n hx hb d_Model_takeOut_86 rfl (lv_at hl 2 rfl) ?_
    obtain ⟨h87, hv, hm⟩ := zbd hm
    refine z_iast X hI hv d_Model_takeOut_87 (fun H locs hI => ?_)
    obtain rfl := zs1 hm
    exact z_vret X hI d_Model_takeOut_88
  · replace hm := zif_f hc56 hm
    refine lv_aload_n hx hb d_Model_takeOut_59 rfl (lv_at hl 0 rfl) ?_
    obtain ⟨v60, hv, hm⟩ := zbd hm
    refine z_getR X hI F_Model_22 hv d_Model_takeOut_60 ?_
    refine lv_iload_n hx hb d_Model_takeOut_63 rfl (lv_at hl 1 rfl) ?_
    refine lv_iconst (v := (nI 1)) hx hb d_Model_takeOut_64 (by decide) ?_
    refine lv_iadd hx hb d_Model_takeOut_65 ?_
    refine lv_iconst (v := (nI 3)) hx hb d_Model_takeOut_66 (by decide) ?_
    refine lv_iload_n hx hb d_Model_takeOut_67 rfl (lv_at hl 2 rfl) ?_
    refine lv_imul hx hb d_Model_takeOut_68 ?_
    refine lv_iadd hx hb d_Model_takeOut_69 ?_
    refine lv_iload hx hb d_Model_takeOut_70 (lv_at hl 3 rfl) ?_
    refine lv_iadd hx hb d_Model_takeOut_72 ?_
    refine lv_iconst (v := (nI 0)) hx hb d_Model_takeOut_73 (by decide) ?_
    obtain ⟨h74, hv, hm⟩ := zbd hm
    refine z_iast X hI hv d_Model_takeOut_74 (fun H locs hI => ?_)
    refine lv_iinc (v := (u.1 + (nI 1))) (lv' := [(4, .int (u.1 + (nI 1))), (0, .ref (G.1 a0)), (1, .int x1), (3, .int x3)]) hx hb d_Model_takeOut_75 hl (k := 3) rfl (congrArg (fun z => u.1 + z) (show Int32.ofInt (1) = (nI 1) by decide)) (by decide) rfl (fun ls hl => ?_)
    refine lv_goto (tgt := 53) hx hb d_Model_takeOut_78 (by decide) ?_
    obtain ⟨g0, e0⟩ : ∃ z, z = (u.1 + (nI 1)) := ⟨_, rfl⟩
    rw [← e0] at hm hl
    exact hk53 (g0, h74) hm _ _ _ hI (lv_sub hl [1, 2, 3, 0] rfl)
theorem r_Model_takeOut_53 {p : Program} {l : Launch} {e : Env} {s : State} {m : MethodId} {args : Array Value} {below : List Frame} {meth : Method} {c : Code} {G : zG} {K : Nat} (X : zX p s m args meth c "AllHomeModel" prog_9_method_24_code 5 none G (zA G K)) {h' : zH} (a0 : Nat) (x1 : Int32) (x3 : Int32) : ∀ (n : Nat) (w : Int32 × zH), zloop (g_Model_takeOut_53 a0 x1 x3) n w = some h' → ∀ (H : Heap) (locs : List Loc) (ls : Array Slot), zI G K s (zA G K) H locs w.2 → lv_has ls 5 [(0, .ref (G.1 a0)), (1, .int x1), (3, .int x3), (4, .int w.1)] → W p l e (zR 0) s m args below meth c H locs 0 0 (MQ below (zQv G K h') args s 0 0 (zA G K)) (F0 m 53 ls []) := by
  intro n
  induction n with
  | zero => intro w hm; cases hm
  | succ n ih => intro w hm H locs ls hI hl; exact r_Model_takeOut_53_b X a0 x1 x3 (zloop (g_Model_takeOut_53 a0 x1 x3) n) ih w (zls hm) hI hl
set_option maxHeartbeats 4000000 in
set_option maxRecDepth 100000 in
theorem r_Model_takeOut_14_b {p : Program} {l : Launch} {e : Env} {s : State} {m : MethodId} {args : Array Value} {below : List Frame} {meth : Method} {c : Code} {G : zG} {K : Nat} (X : zX p s m args meth c "AllHomeModel" prog_9_method_24_code 5 none G (zA G K)) {h' : zH} (a0 : Nat) (x1 : Int32) (x3 : Int32) (k14 : (Int32 × zH) → Option zH) (hk14 : ∀ (w : Int32 × zH), k14 w = some h' → ∀ (H : Heap) (locs : List Loc) (ls : Array Slot), zI G K s (zA G K) H locs w.2 → lv_has ls 5 [(0, .ref (G.1 a0)), (1, .int x1), (3, .int x3), (4, .int w.1)] → W p l e (zR 0) s m args below meth c H locs 0 0 (MQ below (zQv G K h') args s 0 0 (zA G K)) (F0 m 14 ls [])) (u : Int32 × zH) (hm : g_Model_takeOut_14 a0 x1 x3 k14 u = some h') {H : Heap} {locs : List Loc} {ls : Array Slot} (hI : zI G K s (zA G K) H locs u.2) (hl : lv_has ls 5 [(0, .ref (G.1 a0)), (1, .int x1), (3, .int x3), (4, .int u.1)]) : W p l e (zR 0) s m args below meth c H locs 0 0 (MQ below (zQv G K h') args s 0 0 (zA G K)) (F0 m 14 ls []) := by
  obtain ⟨hx, hb, hml, hown, hts, hr, hlocks, hK, hST, hNs⟩ := id X
  unfold g_Model_takeOut_14 at hm
  refine lv_iload hx hb d_Model_takeOut_14 (lv_at hl 3 rfl) ?_
  refine lv_iconst (v := (nI 3)) hx hb d_Model_takeOut_16 (by decide) ?_
  refine lv_iload_n hx hb d_Model_takeOut_17 rfl (lv_at hl 2 rfl) ?_
  refine lv_imul hx hb d_Model_takeOut_18 ?_
  refine lv_icmp_ge (tgt := 50) hx hb d_Model_takeOut_19 (by decide) (fun hc19 => ?_) (fun hc19 => ?_)
  · replace hm := zif_t hc19 hm
    refine lv_iconst (v := (nI 0)) hx hb d_Model_takeOut_50 (by decide) ?_
    refine lv_istore (lv' := [(4, .int (nI 0)), (0, .ref (G.1 a0)), (1, .int x1), (3, .int x3)]) hx hb d_Model_takeOut_51 hl (by decide) rfl (fun ls hl => ?_)
    obtain ⟨g1, e1⟩ : ∃ z, z = u.2 := ⟨_, rfl⟩
    rw [← e1] at hm hI
    exact r_Model_takeOut_53 X a0 x1 x3 zN ((nI 0), g1) hm _ _ _ hI (lv_sub hl [1, 2, 3, 0] rfl)
  · replace hm := zif_f hc19 hm
    refine lv_aload_n hx hb d_Model_takeOut_22 rfl (lv_at hl 0 rfl) ?_
    obtain ⟨v23, hv, hm⟩ := zbd hm
    refine z_getR X hI F_Model_22 hv d_Model_takeOut_23 ?_
    refine lv_iload_n hx hb d_Model_takeOut_26 rfl (lv_at hl 1 rfl) ?_
    refine lv_iconst (v := (nI 1)) hx hb d_Model_takeOut_27 (by decide) ?_
    refine lv_iadd hx hb d_Model_takeOut_28 ?_
    refine lv_iload hx hb d_Model_takeOut_29 (lv_at hl 3 rfl) ?_
    refine lv_iadd hx hb d_Model_takeOut_31 ?_
    refine lv_aload_n hx hb d_Model_takeOut_32 rfl (lv_at hl 0 rfl) ?_
    obtain ⟨v33, hv, hm⟩ := zbd hm
    refine z_getR X hI F_Model_22 hv d_Model_takeOut_33 ?_
    refine lv_iload_n hx hb d_Model_takeOut_36 rfl (lv_at hl 1 rfl) ?_
    refine lv_iconst (v := (nI 4)) hx hb d_Model_takeOut_37 (by decide) ?_
    refine lv_iadd hx hb d_Model_takeOut_38 ?_
    refine lv_iload hx hb d_Model_takeOut_39 (lv_at hl 3 rfl) ?_
    refine lv_iadd hx hb d_Model_takeOut_41 ?_
    obtain ⟨v42, hv, hm⟩ := zbd hm
    refine z_iald X hI hv d_Model_takeOut_42 ?_
    obtain ⟨h43, hv, hm⟩ := zbd hm
    refine z_iast X hI hv d_Model_takeOut_43 (fun H locs hI => ?_)
    refine lv_iinc (v := (u.1 + (nI 1))) (lv' := [(4, .int (u.1 + (nI 1))), (0, .ref (G.1 a0)), (1, .int x1), (3, .int x3)]) hx hb d_Model_takeOut_44 hl (k := 3) rfl (congrArg (fun z => u.1 + z) (show Int32.ofInt (1) = (nI 1) by decide)) (by decide) rfl (fun ls hl => ?_)
    refine lv_goto (tgt := 14) hx hb d_Model_takeOut_47 (by decide) ?_
    obtain ⟨g0, e0⟩ : ∃ z, z = (u.1 + (nI 1)) := ⟨_, rfl⟩
    rw [← e0] at hm hl
    exact hk14 (g0, h43) hm _ _ _ hI (lv_sub hl [1, 2, 3, 0] rfl)
theorem r_Model_takeOut_14 {p : Program} {l : Launch} {e : Env} {s : State} {m : MethodId} {args : Array Value} {below : List Frame} {meth : Method} {c : Code} {G : zG} {K : Nat} (X : zX p s m args meth c "AllHomeModel" prog_9_method_24_code 5 none G (zA G K)) {h' : zH} (a0 : Nat) (x1 : Int32) (x3 : Int32) : ∀ (n : Nat) (w : Int32 × zH), zloop (g_Model_takeOut_14 a0 x1 x3) n w = some h' → ∀ (H : Heap) (locs : List Loc) (ls : Array Slot), zI G K s (zA G K) H locs w.2 → lv_has ls 5 [(0, .ref (G.1 a0)), (1, .int x1), (3, .int x3), (4, .int w.1)] → W p l e (zR 0) s m args below meth c H locs 0 0 (MQ below (zQv G K h') args s 0 0 (zA G K)) (F0 m 14 ls []) := by
  intro n
  induction n with
  | zero => intro w hm; cases hm
  | succ n ih => intro w hm H locs ls hI hl; exact r_Model_takeOut_14_b X a0 x1 x3 (zloop (g_Model_takeOut_14 a0 x1 x3) n) ih w (zls hm) hI hl
set_option maxHeartbeats 4000000 in
set_option maxRecDepth 100000 in
theorem r_Model_takeOut_0 {p : Program} {l : Launch} {e : Env} {s : State} {m : MethodId} {args : Array Value} {below : List Frame} {meth : Method} {c : Code} {G : zG} {K : Nat} (X : zX p s m args meth c "AllHomeModel" prog_9_method_24_code 5 none G (zA G K)) {h' : zH} (a0 : Nat) (x1 : Int32) (x2 : Int32) (h : zH) (hm : m_Model_takeOut a0 x1 x2 h = some h') {H : Heap} {locs : List Loc} {ls : Array Slot} (hI : zI G K s (zA G K) H locs h) (hl : lv_has ls 5 [(0, .ref (G.1 a0)), (1, .int x1), (2, .int x2)]) : W p l e (zR 0) s m args below meth c H locs 0 0 (MQ below (zQv G K h') args s 0 0 (zA G K)) (F0 m 0 ls []) := by
  obtain ⟨hx, hb, hml, hown, hts, hr, hlocks, hK, hST, hNs⟩ := id X
  unfold m_Model_takeOut at hm
  refine lv_aload_n hx hb d_Model_takeOut_0 rfl (lv_at hl 0 rfl) ?_
  obtain ⟨v1, hv, hm⟩ := zbd hm
  refine z_getR X hI F_Model_22 hv d_Model_takeOut_1 ?_
  refine lv_iload_n hx hb d_Model_takeOut_4 rfl (lv_at hl 1 rfl) ?_
  obtain ⟨v5, hv, hm⟩ := zbd hm
  refine z_iald X hI hv d_Model_takeOut_5 ?_
  refine lv_iconst (v := (nI 1)) hx hb d_Model_takeOut_6 (by decide) ?_
  refine lv_isub hx hb d_Model_takeOut_7 ?_
  refine lv_istore_n (lv' := [(3, .int (v5 - (nI 1))), (0, .ref (G.1 a0)), (1, .int x1), (2, .int x2)]) hx hb d_Model_takeOut_8 rfl hl (by decide) rfl (fun ls hl => ?_)
  refine lv_iconst (v := (nI 3)) hx hb d_Model_takeOut_9 (by decide) ?_
  refine lv_iload_n hx hb d_Model_takeOut_10 rfl (lv_at hl 3 rfl) ?_
  refine lv_imul hx hb d_Model_takeOut_11 ?_
  refine lv_istore (lv' := [(4, .int ((nI 3) * x2)), (3, .int (v5 - (nI 1))), (0, .ref (G.1 a0)), (1, .int x1), (2, .int x2)]) hx hb d_Model_takeOut_12 hl (by decide) rfl (fun ls hl => ?_)
  obtain ⟨g0, e0⟩ : ∃ z, z = ((nI 3) * x2) := ⟨_, rfl⟩
  rw [← e0] at hm hl
  exact r_Model_takeOut_14 X a0 x1 (v5 - (nI 1)) zN (g0, h) hm _ _ _ hI (lv_sub hl [2, 3, 1, 0] rfl)
set_option maxHeartbeats 4000000 in
set_option maxRecDepth 100000 in
theorem c_Model_takeOut (l : Launch) (G : zG) (K : Nat) (a0 : Nat) (x1 : Int32) (x2 : Int32) (h : zH) (h' : zH) (hm : m_Model_takeOut a0 x1 x2 h = some h') : zMv l G K y_Model_takeOut prog_9_method_24_code 5 0 [.ref (G.1 a0), .int x1, .int x2] h h' := zMet (by decide +kernel) (Nat.le_of_ble_eq_true rfl) (fun p e s m below meth c ls X hI hl => r_Model_takeOut_0 X a0 x1 x2 h hm hI hl)
-- walk of AllHomeModel.sendNote
theorem d_Model_sendNote_0 : decode prog_9_method_25_code 0 = .ok (.aload_n 0, 1) := by decide +kernel
theorem d_Model_sendNote_1 : decode prog_9_method_25_code 1 = .ok (.bipush 61, 2) := by decide +kernel
theorem d_Model_sendNote_3 : decode prog_9_method_25_code 3 = .ok (.iload_n 1, 1) := by decide +kernel
theorem d_Model_sendNote_4 : decode prog_9_method_25_code 4 = .ok (.iload_n 2, 1) := by decide +kernel
theorem d_Model_sendNote_5 : decode prog_9_method_25_code 5 = .ok (.iload_n 3, 1) := by decide +kernel
theorem d_Model_sendNote_6 : decode prog_9_method_25_code 6 = .ok (.invokevirtual 147, 3) := by decide +kernel
theorem d_Model_sendNote_9 : decode prog_9_method_25_code 9 = .ok (.aload_n 0, 1) := by decide +kernel
theorem d_Model_sendNote_10 : decode prog_9_method_25_code 10 = .ok (.dup, 1) := by decide +kernel
theorem d_Model_sendNote_11 : decode prog_9_method_25_code 11 = .ok (.getfield 140, 3) := by decide +kernel
theorem d_Model_sendNote_14 : decode prog_9_method_25_code 14 = .ok (.iconst 1, 1) := by decide +kernel
theorem d_Model_sendNote_15 : decode prog_9_method_25_code 15 = .ok (.iadd, 1) := by decide +kernel
theorem d_Model_sendNote_16 : decode prog_9_method_25_code 16 = .ok (.putfield 140, 3) := by decide +kernel
theorem d_Model_sendNote_19 : decode prog_9_method_25_code 19 = .ok (.return_, 1) := by decide +kernel
set_option maxHeartbeats 4000000 in
set_option maxRecDepth 100000 in
theorem r_Model_sendNote_0 {p : Program} {l : Launch} {e : Env} {s : State} {m : MethodId} {args : Array Value} {below : List Frame} {meth : Method} {c : Code} {G : zG} {K : Nat} (X : zX p s m args meth c "AllHomeModel" prog_9_method_25_code 4 none G (zA G K)) {h' : zH} (a0 : Nat) (x1 : Int32) (x2 : Int32) (x3 : Int32) (h : zH) (hm : m_Model_sendNote a0 x1 x2 x3 h = some h') {H : Heap} {locs : List Loc} {ls : Array Slot} (hI : zI G K s (zA G K) H locs h) (hl : lv_has ls 4 [(0, .ref (G.1 a0)), (1, .int x1), (2, .int x2), (3, .int x3)]) : W p l e (zR 1) s m args below meth c H locs 0 0 (MQ below (zQv G K h') args s 0 0 (zA G K)) (F0 m 0 ls []) := by
  obtain ⟨hx, hb, hml, hown, hts, hr, hlocks, hK, hST, hNs⟩ := id X
  unfold m_Model_sendNote at hm
  refine lv_aload_n hx hb d_Model_sendNote_0 rfl (lv_at hl 0 rfl) ?_
  refine lv_bipush (v := (nI 61)) hx hb d_Model_sendNote_1 (by decide) ?_
  refine lv_iload_n hx hb d_Model_sendNote_3 rfl (lv_at hl 1 rfl) ?_
  refine lv_iload_n hx hb d_Model_sendNote_4 rfl (lv_at hl 2 rfl) ?_
  refine lv_iload_n hx hb d_Model_sendNote_5 rfl (lv_at hl 3 rfl) ?_
  obtain ⟨h6, hv, hm⟩ := zbd hm
  obtain ⟨hq, hv⟩ := zcv_at hv
  refine z_cv hI (z_runV (As := [.int (nI 61), .int x1, .int x2, .int x3]) (rest := []) X hI hl.1 (c_Model_putLast l G K a0 (nI 61) x1 x2 x3 h _ hv) C_Model_147 rfl hq (Nat.le_of_ble_eq_true rfl) ⟨Nat.le_of_ble_eq_true rfl, Nat.le_of_ble_eq_true rfl, Nat.zero_le _, Nat.zero_le _⟩ rfl d_Model_sendNote_6) (fun H locs hI => ?_)
  refine lv_aload_n hx hb d_Model_sendNote_9 rfl (lv_at hl 0 rfl) ?_
  refine lv_dup hx hb d_Model_sendNote_10 rfl ?_
  obtain ⟨v11, hv, hm⟩ := zbd hm
  refine z_getI X hI F_Model_140 hv d_Model_sendNote_11 ?_
  refine lv_iconst (v := (nI 1)) hx hb d_Model_sendNote_14 (by decide) ?_
  refine lv_iadd hx hb d_Model_sendNote_15 ?_
  obtain ⟨h16, hv, hm⟩ := zbd hm
  refine z_putI X hI P_Model_140 hv d_Model_sendNote_16 (fun H locs hI => ?_)
  obtain rfl := zs1 hm
  exact z_vret X hI d_Model_sendNote_19
set_option maxHeartbeats 4000000 in
set_option maxRecDepth 100000 in
theorem c_Model_sendNote (l : Launch) (G : zG) (K : Nat) (a0 : Nat) (x1 : Int32) (x2 : Int32) (x3 : Int32) (h : zH) (h' : zH) (hm : m_Model_sendNote a0 x1 x2 x3 h = some h') : zMv l G K y_Model_sendNote prog_9_method_25_code 4 1 [.ref (G.1 a0), .int x1, .int x2, .int x3] h h' := zMet (by decide +kernel) (Nat.le_of_ble_eq_true rfl) (fun p e s m below meth c ls X hI hl => r_Model_sendNote_0 X a0 x1 x2 x3 h hm hI hl)
-- walk of AllHomeModel.sendWord
theorem d_Model_sendWord_0 : decode prog_9_method_26_code 0 = .ok (.aload_n 0, 1) := by decide +kernel
theorem d_Model_sendWord_1 : decode prog_9_method_26_code 1 = .ok (.iload_n 1, 1) := by decide +kernel
theorem d_Model_sendWord_2 : decode prog_9_method_26_code 2 = .ok (.iconst 2, 1) := by decide +kernel
theorem d_Model_sendWord_3 : decode prog_9_method_26_code 3 = .ok (.iconst 1, 1) := by decide +kernel
theorem d_Model_sendWord_4 : decode prog_9_method_26_code 4 = .ok (.invokevirtual 151, 3) := by decide +kernel
theorem d_Model_sendWord_7 : decode prog_9_method_26_code 7 = .ok (.aload_n 0, 1) := by decide +kernel
theorem d_Model_sendWord_8 : decode prog_9_method_26_code 8 = .ok (.dup, 1) := by decide +kernel
theorem d_Model_sendWord_9 : decode prog_9_method_26_code 9 = .ok (.getfield 137, 3) := by decide +kernel
theorem d_Model_sendWord_12 : decode prog_9_method_26_code 12 = .ok (.iconst 1, 1) := by decide +kernel
theorem d_Model_sendWord_13 : decode prog_9_method_26_code 13 = .ok (.iadd, 1) := by decide +kernel
theorem d_Model_sendWord_14 : decode prog_9_method_26_code 14 = .ok (.putfield 137, 3) := by decide +kernel
theorem d_Model_sendWord_17 : decode prog_9_method_26_code 17 = .ok (.iconst 0, 1) := by decide +kernel
theorem d_Model_sendWord_18 : decode prog_9_method_26_code 18 = .ok (.istore_n 3, 1) := by decide +kernel
theorem d_Model_sendWord_19 : decode prog_9_method_26_code 19 = .ok (.aload_n 0, 1) := by decide +kernel
theorem d_Model_sendWord_20 : decode prog_9_method_26_code 20 = .ok (.getfield 134, 3) := by decide +kernel
theorem d_Model_sendWord_23 : decode prog_9_method_26_code 23 = .ok (.iconst 1, 1) := by decide +kernel
theorem d_Model_sendWord_24 : decode prog_9_method_26_code 24 = .ok (.if_icmp .ne 53, 3) := by decide +kernel
theorem d_Model_sendWord_27 : decode prog_9_method_26_code 27 = .ok (.aload_n 0, 1) := by decide +kernel
theorem d_Model_sendWord_28 : decode prog_9_method_26_code 28 = .ok (.iload_n 1, 1) := by decide +kernel
theorem d_Model_sendWord_29 : decode prog_9_method_26_code 29 = .ok (.iconst 3, 1) := by decide +kernel
theorem d_Model_sendWord_30 : decode prog_9_method_26_code 30 = .ok (.invokevirtual 155, 3) := by decide +kernel
theorem d_Model_sendWord_33 : decode prog_9_method_26_code 33 = .ok (.iconst 1, 1) := by decide +kernel
theorem d_Model_sendWord_34 : decode prog_9_method_26_code 34 = .ok (.if_icmp .gt 23, 3) := by decide +kernel
theorem d_Model_sendWord_37 : decode prog_9_method_26_code 37 = .ok (.aload_n 0, 1) := by decide +kernel
theorem d_Model_sendWord_38 : decode prog_9_method_26_code 38 = .ok (.iload_n 1, 1) := by decide +kernel
theorem d_Model_sendWord_39 : decode prog_9_method_26_code 39 = .ok (.iconst 3, 1) := by decide +kernel
theorem d_Model_sendWord_40 : decode prog_9_method_26_code 40 = .ok (.bipush 64, 2) := by decide +kernel
theorem d_Model_sendWord_42 : decode prog_9_method_26_code 42 = .ok (.invokevirtual 151, 3) := by decide +kernel
theorem d_Model_sendWord_45 : decode prog_9_method_26_code 45 = .ok (.aload_n 0, 1) := by decide +kernel
theorem d_Model_sendWord_46 : decode prog_9_method_26_code 46 = .ok (.getfield 22, 3) := by decide +kernel
theorem d_Model_sendWord_49 : decode prog_9_method_26_code 49 = .ok (.bipush 86, 2) := by decide +kernel
theorem d_Model_sendWord_51 : decode prog_9_method_26_code 51 = .ok (.dup2, 1) := by decide +kernel
theorem d_Model_sendWord_52 : decode prog_9_method_26_code 52 = .ok (.iaload, 1) := by decide +kernel
theorem d_Model_sendWord_53 : decode prog_9_method_26_code 53 = .ok (.bipush 64, 2) := by decide +kernel
theorem d_Model_sendWord_55 : decode prog_9_method_26_code 55 = .ok (.iadd, 1) := by decide +kernel
theorem d_Model_sendWord_56 : decode prog_9_method_26_code 56 = .ok (.iastore, 1) := by decide +kernel
theorem d_Model_sendWord_57 : decode prog_9_method_26_code 57 = .ok (.aload_n 0, 1) := by decide +kernel
theorem d_Model_sendWord_58 : decode prog_9_method_26_code 58 = .ok (.iload_n 1, 1) := by decide +kernel
theorem d_Model_sendWord_59 : decode prog_9_method_26_code 59 = .ok (.iconst 3, 1) := by decide +kernel
theorem d_Model_sendWord_60 : decode prog_9_method_26_code 60 = .ok (.invokevirtual 155, 3) := by decide +kernel
theorem d_Model_sendWord_63 : decode prog_9_method_26_code 63 = .ok (.iconst 2, 1) := by decide +kernel
theorem d_Model_sendWord_64 : decode prog_9_method_26_code 64 = .ok (.idiv, 1) := by decide +kernel
theorem d_Model_sendWord_65 : decode prog_9_method_26_code 65 = .ok (.istore_n 3, 1) := by decide +kernel
theorem d_Model_sendWord_66 : decode prog_9_method_26_code 66 = .ok (.aload_n 0, 1) := by decide +kernel
theorem d_Model_sendWord_67 : decode prog_9_method_26_code 67 = .ok (.iload_n 1, 1) := by decide +kernel
theorem d_Model_sendWord_68 : decode prog_9_method_26_code 68 = .ok (.iconst 3, 1) := by decide +kernel
theorem d_Model_sendWord_69 : decode prog_9_method_26_code 69 = .ok (.iload_n 3, 1) := by decide +kernel
theorem d_Model_sendWord_70 : decode prog_9_method_26_code 70 = .ok (.ineg, 1) := by decide +kernel
theorem d_Model_sendWord_71 : decode prog_9_method_26_code 71 = .ok (.invokevirtual 151, 3) := by decide +kernel
theorem d_Model_sendWord_74 : decode prog_9_method_26_code 74 = .ok (.goto 43, 3) := by decide +kernel
theorem d_Model_sendWord_77 : decode prog_9_method_26_code 77 = .ok (.aload_n 0, 1) := by decide +kernel
theorem d_Model_sendWord_78 : decode prog_9_method_26_code 78 = .ok (.getfield 134, 3) := by decide +kernel
theorem d_Model_sendWord_81 : decode prog_9_method_26_code 81 = .ok (.iconst 2, 1) := by decide +kernel
theorem d_Model_sendWord_82 : decode prog_9_method_26_code 82 = .ok (.invokestatic 159, 3) := by decide +kernel
theorem d_Model_sendWord_85 : decode prog_9_method_26_code 85 = .ok (.ifCond .ne 25, 3) := by decide +kernel
theorem d_Model_sendWord_88 : decode prog_9_method_26_code 88 = .ok (.aload_n 0, 1) := by decide +kernel
theorem d_Model_sendWord_89 : decode prog_9_method_26_code 89 = .ok (.getfield 134, 3) := by decide +kernel
theorem d_Model_sendWord_92 : decode prog_9_method_26_code 92 = .ok (.iconst 4, 1) := by decide +kernel
theorem d_Model_sendWord_93 : decode prog_9_method_26_code 93 = .ok (.invokestatic 159, 3) := by decide +kernel
theorem d_Model_sendWord_96 : decode prog_9_method_26_code 96 = .ok (.ifCond .ne 14, 3) := by decide +kernel
theorem d_Model_sendWord_99 : decode prog_9_method_26_code 99 = .ok (.aload_n 0, 1) := by decide +kernel
theorem d_Model_sendWord_100 : decode prog_9_method_26_code 100 = .ok (.getfield 134, 3) := by decide +kernel
theorem d_Model_sendWord_103 : decode prog_9_method_26_code 103 = .ok (.iconst 5, 1) := by decide +kernel
theorem d_Model_sendWord_104 : decode prog_9_method_26_code 104 = .ok (.invokestatic 159, 3) := by decide +kernel
theorem d_Model_sendWord_107 : decode prog_9_method_26_code 107 = .ok (.ifCond .eq 10, 3) := by decide +kernel
theorem d_Model_sendWord_110 : decode prog_9_method_26_code 110 = .ok (.aload_n 0, 1) := by decide +kernel
theorem d_Model_sendWord_111 : decode prog_9_method_26_code 111 = .ok (.iload_n 1, 1) := by decide +kernel
theorem d_Model_sendWord_112 : decode prog_9_method_26_code 112 = .ok (.iconst 3, 1) := by decide +kernel
theorem d_Model_sendWord_113 : decode prog_9_method_26_code 113 = .ok (.iconst 1, 1) := by decide +kernel
theorem d_Model_sendWord_114 : decode prog_9_method_26_code 114 = .ok (.invokevirtual 151, 3) := by decide +kernel
theorem d_Model_sendWord_117 : decode prog_9_method_26_code 117 = .ok (.iload_n 2, 1) := by decide +kernel
theorem d_Model_sendWord_118 : decode prog_9_method_26_code 118 = .ok (.aload_n 0, 1) := by decide +kernel
theorem d_Model_sendWord_119 : decode prog_9_method_26_code 119 = .ok (.getfield 78, 3) := by decide +kernel
theorem d_Model_sendWord_122 : decode prog_9_method_26_code 122 = .ok (.if_icmp .ge 12, 3) := by decide +kernel
theorem d_Model_sendWord_125 : decode prog_9_method_26_code 125 = .ok (.aload_n 0, 1) := by decide +kernel
theorem d_Model_sendWord_126 : decode prog_9_method_26_code 126 = .ok (.bipush 36, 2) := by decide +kernel
theorem d_Model_sendWord_128 : decode prog_9_method_26_code 128 = .ok (.iload_n 1, 1) := by decide +kernel
theorem d_Model_sendWord_129 : decode prog_9_method_26_code 129 = .ok (.iload_n 2, 1) := by decide +kernel
theorem d_Model_sendWord_130 : decode prog_9_method_26_code 130 = .ok (.iload_n 3, 1) := by decide +kernel
theorem d_Model_sendWord_131 : decode prog_9_method_26_code 131 = .ok (.invokevirtual 147, 3) := by decide +kernel
theorem d_Model_sendWord_134 : decode prog_9_method_26_code 134 = .ok (.return_, 1) := by decide +kernel
set_option maxHeartbeats 4000000 in
set_option maxRecDepth 100000 in
theorem r_Model_sendWord_117 {p : Program} {l : Launch} {e : Env} {s : State} {m : MethodId} {args : Array Value} {below : List Frame} {meth : Method} {c : Code} {G : zG} {K : Nat} (X : zX p s m args meth c "AllHomeModel" prog_9_method_26_code 4 none G (zA G K)) {h' : zH} (a0 : Nat) (x1 : Int32) (x2 : Int32) (x3 : Int32) (h : zH) (hm : g_Model_sendWord_117 a0 x1 x2 x3 h = some h') {H : Heap} {locs : List Loc} {ls : Array Slot} (hI : zI G K s (zA G K) H locs h) (hl : lv_has ls 4 [(0, .ref (G.1 a0)), (1, .int x1), (2, .int x2), (3, .int x3)]) : W p l e (zR 2) s m args below meth c H locs 0 0 (MQ below (zQv G K h') args s 0 0 (zA G K)) (F0 m 117 ls []) := by
  obtain ⟨hx, hb, hml, hown, hts, hr, hlocks, hK, hST, hNs⟩ := id X
  unfold g_Model_sendWord_117 at hm
  refine lv_iload_n hx hb d_Model_sendWord_117 rfl (lv_at hl 2 rfl) ?_
  refine lv_aload_n hx hb d_Model_sendWord_118 rfl (lv_at hl 0 rfl) ?_
  obtain ⟨v119, hv, hm⟩ := zbd hm
  refine z_getI X hI F_Model_78 hv d_Model_sendWord_119 ?_
  refine lv_icmp_ge (tgt := 134) hx hb d_Model_sendWord_122 (by decide) (fun hc122 => ?_) (fun hc122 => ?_)
  · replace hm := zif_t hc122 hm
    obtain rfl := zs1 hm
    exact z_vret X hI d_Model_sendWord_134
  · replace hm := zif_f hc122 hm
    refine lv_aload_n hx hb d_Model_sendWord_125 rfl (lv_at hl 0 rfl) ?_
    refine lv_bipush (v := (nI 36)) hx hb d_Model_sendWord_126 (by decide) ?_
    refine lv_iload_n hx hb d_Model_sendWord_128 rfl (lv_at hl 1 rfl) ?_
    refine lv_iload_n hx hb d_Model_sendWord_129 rfl (lv_at hl 2 rfl) ?_
    refine lv_iload_n hx hb d_Model_sendWord_130 rfl (lv_at hl 3 rfl) ?_
    obtain ⟨h131, hv, hm⟩ := zbd hm
    obtain ⟨hq, hv⟩ := zcv_at hv
    refine z_cv hI (z_runV (As := [.int (nI 36), .int x1, .int x2, .int x3]) (rest := []) X hI hl.1 (c_Model_putLast l G K a0 (nI 36) x1 x2 x3 h _ hv) C_Model_147 rfl hq (Nat.le_of_ble_eq_true rfl) ⟨Nat.le_of_ble_eq_true rfl, Nat.le_of_ble_eq_true rfl, Nat.zero_le _, Nat.zero_le _⟩ rfl d_Model_sendWord_131) (fun H locs hI => ?_)
    obtain rfl := zs1 hm
    exact z_vret X hI d_Model_sendWord_134
set_option maxHeartbeats 4000000 in
set_option maxRecDepth 100000 in
theorem r_Model_sendWord_57 {p : Program} {l : Launch} {e : Env} {s : State} {m : MethodId} {args : Array Value} {below : List Frame} {meth : Method} {c : Code} {G : zG} {K : Nat} (X : zX p s m args meth c "AllHomeModel" prog_9_method_26_code 4 none G (zA G K)) {h' : zH} (a0 : Nat) (x1 : Int32) (x2 : Int32) (h : zH) (hm : g_Model_sendWord_57 a0 x1 x2 h = some h') {H : Heap} {locs : List Loc} {ls : Array Slot} (hI : zI G K s (zA G K) H locs h) (hl : lv_has ls 4 [(0, .ref (G.1 a0)), (1, .int x1), (2, .int x2)]) : W p l e (zR 2) s m args below meth c H locs 0 0 (MQ below (zQv G K h') args s 0 0 (zA G K)) (F0 m 57 ls []) := by
  obtain ⟨hx, hb, hml, hown, hts, hr, hlocks, hK, hST, hNs⟩ := id X
  unfold g_Model_sendWord_57 at hm
  refine lv_aload_n hx hb d_Model_sendWord_57 rfl (lv_at hl 0 rfl) ?_
  refine lv_iload_n hx hb d_Model_sendWord_58 rfl (lv_at hl 1 rfl) ?_
  refine lv_iconst (v := (nI 3)) hx hb d_Model_sendWord_59 (by decide) ?_
  obtain ⟨v60, hv, hm⟩ := zbd hm
  obtain ⟨hq, hv⟩ := zcv_at hv
  refine z_ci hI (z_runV (As := [.int x1, .int (nI 3)]) (rest := []) X hI hl.1 (c_Model_of l G K a0 x1 (nI 3) h _ hv) C_Model_155 rfl hq (Nat.le_of_ble_eq_true rfl) ⟨Nat.le_of_ble_eq_true rfl, Nat.le_of_ble_eq_true rfl, Nat.zero_le _, Nat.zero_le _⟩ rfl d_Model_sendWord_60) (fun H locs hI => ?_)
  refine lv_iconst (v := (nI 2)) hx hb d_Model_sendWord_63 (by decide) ?_
  refine lv_idiv hx hb d_Model_sendWord_64 (by decide) ?_
  refine lv_istore_n (lv' := [(3, .int (v60 / (nI 2))), (0, .ref (G.1 a0)), (1, .int x1), (2, .int x2)]) hx hb d_Model_sendWord_65 rfl hl (by decide) rfl (fun ls hl => ?_)
  refine lv_aload_n hx hb d_Model_sendWord_66 rfl (lv_at hl 1 rfl) ?_
  refine lv_iload_n hx hb d_Model_sendWord_67 rfl (lv_at hl 2 rfl) ?_
  refine lv_iconst (v := (nI 3)) hx hb d_Model_sendWord_68 (by decide) ?_
  refine lv_iload_n hx hb d_Model_sendWord_69 rfl (lv_at hl 0 rfl) ?_
  refine lv_ineg hx hb d_Model_sendWord_70 ?_
  obtain ⟨h71, hv, hm⟩ := zbd hm
  obtain ⟨hq, hv⟩ := zcv_at hv
  refine z_cv hI (z_runV (As := [.int x1, .int (nI 3), .int (-(v60 / (nI 2)))]) (rest := []) X hI hl.1 (c_Model_add l G K a0 x1 (nI 3) (-(v60 / (nI 2))) h _ hv) C_Model_151 rfl hq (Nat.le_of_ble_eq_true rfl) ⟨Nat.le_of_ble_eq_true rfl, Nat.le_of_ble_eq_true rfl, Nat.zero_le _, Nat.zero_le _⟩ rfl d_Model_sendWord_71) (fun H locs hI => ?_)
  refine lv_goto (tgt := 117) hx hb d_Model_sendWord_74 (by decide) ?_
  exact r_Model_sendWord_117 X a0 x1 x2 (v60 / (nI 2)) h71 hm hI (lv_sub hl [1, 2, 3, 0] rfl)
set_option maxHeartbeats 4000000 in
set_option maxRecDepth 100000 in
theorem r_Model_sendWord_0 {p : Program} {l : Launch} {e : Env} {s : State} {m : MethodId} {args : Array Value} {below : List Frame} {meth : Method} {c : Code} {G : zG} {K : Nat} (X : zX p s m args meth c "AllHomeModel" prog_9_method_26_code 4 none G (zA G K)) {h' : zH} (a0 : Nat) (x1 : Int32) (x2 : Int32) (h : zH) (hm : m_Model_sendWord a0 x1 x2 h = some h') {H : Heap} {locs : List Loc} {ls : Array Slot} (hI : zI G K s (zA G K) H locs h) (hl : lv_has ls 4 [(0, .ref (G.1 a0)), (1, .int x1), (2, .int x2)]) : W p l e (zR 2) s m args below meth c H locs 0 0 (MQ below (zQv G K h') args s 0 0 (zA G K)) (F0 m 0 ls []) := by
  obtain ⟨hx, hb, hml, hown, hts, hr, hlocks, hK, hST, hNs⟩ := id X
  unfold m_Model_sendWord at hm
  refine lv_aload_n hx hb d_Model_sendWord_0 rfl (lv_at hl 0 rfl) ?_
  refine lv_iload_n hx hb d_Model_sendWord_1 rfl (lv_at hl 1 rfl) ?_
  refine lv_iconst (v := (nI 2)) hx hb d_Model_sendWord_2 (by decide) ?_
  refine lv_iconst (v := (nI 1)) hx hb d_Model_sendWord_3 (by decide) ?_
  obtain ⟨h4, hv, hm⟩ := zbd hm
  obtain ⟨hq, hv⟩ := zcv_at hv
  refine z_cv hI (z_runV (As := [.int x1, .int (nI 2), .int (nI 1)]) (rest := []) X hI hl.1 (c_Model_add l G K a0 x1 (nI 2) (nI 1) h _ hv) C_Model_151 rfl hq (Nat.le_of_ble_eq_true rfl) ⟨Nat.le_of_ble_eq_true rfl, Nat.le_of_ble_eq_true rfl, Nat.zero_le _, Nat.zero_le _⟩ rfl d_Model_sendWord_4) (fun H locs hI => ?_)
  refine lv_aload_n hx hb d_Model_sendWord_7 rfl (lv_at hl 0 rfl) ?_
  refine lv_dup hx hb d_Model_sendWord_8 rfl ?_
  obtain ⟨v9, hv, hm⟩ := zbd hm
  refine z_getI X hI F_Model_137 hv d_Model_sendWord_9 ?_
  refine lv_iconst (v := (nI 1)) hx hb d_Model_sendWord_12 (by decide) ?_
  refine lv_iadd hx hb d_Model_sendWord_13 ?_
  obtain ⟨h14, hv, hm⟩ := zbd hm
  refine z_putI X hI P_Model_137 hv d_Model_sendWord_14 (fun H locs hI => ?_)
  refine lv_iconst (v := (nI 0)) hx hb d_Model_sendWord_17 (by decide) ?_
  refine lv_istore_n (lv' := [(3, .int (nI 0)), (0, .ref (G.1 a0)), (1, .int x1), (2, .int x2)]) hx hb d_Model_sendWord_18 rfl hl (by decide) rfl (fun ls hl => ?_)
  refine lv_aload_n hx hb d_Model_sendWord_19 rfl (lv_at hl 1 rfl) ?_
  obtain ⟨v20, hv, hm⟩ := zbd hm
  refine z_getI X hI F_Model_134 hv d_Model_sendWord_20 ?_
  refine lv_iconst (v := (nI 1)) hx hb d_Model_sendWord_23 (by decide) ?_
  refine lv_icmp_ne (tgt := 77) hx hb d_Model_sendWord_24 (by decide) (fun hc24 => ?_) (fun hc24 => ?_)
  · replace hm := zif_f hc24 hm
    refine lv_aload_n hx hb d_Model_sendWord_77 rfl (lv_at hl 1 rfl) ?_
    obtain ⟨v78, hv, hm⟩ := zbd hm
    refine z_getI X hI F_Model_134 hv d_Model_sendWord_78 ?_
    refine lv_iconst (v := (nI 2)) hx hb d_Model_sendWord_81 (by decide) ?_
    obtain ⟨v82, hv, hm⟩ := zbd hm
    refine z_ci hI (z_runS (As := [.int v78, .int (nI 2)]) (rest := []) X hI hl.1 (c_Model_isUnder l G K v78 (nI 2) h14 _ hv) C_Model_159 rfl (Nat.le_of_ble_eq_true rfl) ⟨Nat.le_of_ble_eq_true rfl, Nat.le_of_ble_eq_true rfl, Nat.zero_le _, Nat.zero_le _⟩ rfl d_Model_sendWord_82) (fun H locs hI => ?_)
    refine lv_if_ne (tgt := 110) hx hb d_Model_sendWord_85 (by decide) (fun hc85 => ?_) (fun hc85 => ?_)
    · replace hm := zif_f hc85 hm
      refine lv_aload_n hx hb d_Model_sendWord_110 rfl (lv_at hl 1 rfl) ?_
      refine lv_iload_n hx hb d_Model_sendWord_111 rfl (lv_at hl 2 rfl) ?_
      refine lv_iconst (v := (nI 3)) hx hb d_Model_sendWord_112 (by decide) ?_
      refine lv_iconst (v := (nI 1)) hx hb d_Model_sendWord_113 (by decide) ?_
      obtain ⟨h114, hv, hm⟩ := zbd hm
      obtain ⟨hq, hv⟩ := zcv_at hv
      refine z_cv hI (z_runV (As := [.int x1, .int (nI 3), .int (nI 1)]) (rest := []) X hI hl.1 (c_Model_add l G K a0 x1 (nI 3) (nI 1) h14 _ hv) C_Model_151 rfl hq (Nat.le_of_ble_eq_true rfl) ⟨Nat.le_of_ble_eq_true rfl, Nat.le_of_ble_eq_true rfl, Nat.zero_le _, Nat.zero_le _⟩ rfl d_Model_sendWord_114) (fun H locs hI => ?_)
      exact r_Model_sendWord_117 X a0 x1 x2 (nI 0) h114 hm hI (lv_sub hl [1, 2, 3, 0] rfl)
    · replace hm := zif_t hc85 hm
      refine lv_aload_n hx hb d_Model_sendWord_88 rfl (lv_at hl 1 rfl) ?_
      obtain ⟨v89, hv, hm⟩ := zbd hm
      refine z_getI X hI F_Model_134 hv d_Model_sendWord_89 ?_
      refine lv_iconst (v := (nI 4)) hx hb d_Model_sendWord_92 (by decide) ?_
      obtain ⟨v93, hv, hm⟩ := zbd hm
      refine z_ci hI (z_runS (As := [.int v89, .int (nI 4)]) (rest := []) X hI hl.1 (c_Model_isUnder l G K v89 (nI 4) h14 _ hv) C_Model_159 rfl (Nat.le_of_ble_eq_true rfl) ⟨Nat.le_of_ble_eq_true rfl, Nat.le_of_ble_eq_true rfl, Nat.zero_le _, Nat.zero_le _⟩ rfl d_Model_sendWord_93) (fun H locs hI => ?_)
      refine lv_if_ne (tgt := 110) hx hb d_Model_sendWord_96 (by decide) (fun hc96 => ?_) (fun hc96 => ?_)
      · replace hm := zif_f hc96 hm
        refine lv_aload_n hx hb d_Model_sendWord_110 rfl (lv_at hl 1 rfl) ?_
        refine lv_iload_n hx hb d_Model_sendWord_111 rfl (lv_at hl 2 rfl) ?_
        refine lv_iconst (v := (nI 3)) hx hb d_Model_sendWord_112 (by decide) ?_
        refine lv_iconst (v := (nI 1)) hx hb d_Model_sendWord_113 (by decide) ?_
        obtain ⟨h114, hv, hm⟩ := zbd hm
        obtain ⟨hq, hv⟩ := zcv_at hv
        refine z_cv hI (z_runV (As := [.int x1, .int (nI 3), .int (nI 1)]) (rest := []) X hI hl.1 (c_Model_add l G K a0 x1 (nI 3) (nI 1) h14 _ hv) C_Model_151 rfl hq (Nat.le_of_ble_eq_true rfl) ⟨Nat.le_of_ble_eq_true rfl, Nat.le_of_ble_eq_true rfl, Nat.zero_le _, Nat.zero_le _⟩ rfl d_Model_sendWord_114) (fun H locs hI => ?_)
        exact r_Model_sendWord_117 X a0 x1 x2 (nI 0) h114 hm hI (lv_sub hl [1, 2, 3, 0] rfl)
      · replace hm := zif_t hc96 hm
        refine lv_aload_n hx hb d_Model_sendWord_99 rfl (lv_at hl 1 rfl) ?_
        obtain ⟨v100, hv, hm⟩ := zbd hm
        refine z_getI X hI F_Model_134 hv d_Model_sendWord_100 ?_
        refine lv_iconst (v := (nI 5)) hx hb d_Model_sendWord_103 (by decide) ?_
        obtain ⟨v104, hv, hm⟩ := zbd hm
        refine z_ci hI (z_runS (As := [.int v100, .int (nI 5)]) (rest := []) X hI hl.1 (c_Model_isUnder l G K v100 (nI 5) h14 _ hv) C_Model_159 rfl (Nat.le_of_ble_eq_true rfl) ⟨Nat.le_of_ble_eq_true rfl, Nat.le_of_ble_eq_true rfl, Nat.zero_le _, Nat.zero_le _⟩ rfl d_Model_sendWord_104) (fun H locs hI => ?_)
        refine lv_if_eq (tgt := 117) hx hb d_Model_sendWord_107 (by decide) (fun hc107 => ?_) (fun hc107 => ?_)
        · replace hm := zif_t hc107 hm
          exact r_Model_sendWord_117 X a0 x1 x2 (nI 0) h14 hm hI (lv_sub hl [1, 2, 3, 0] rfl)
        · replace hm := zif_f hc107 hm
          refine lv_aload_n hx hb d_Model_sendWord_110 rfl (lv_at hl 1 rfl) ?_
          refine lv_iload_n hx hb d_Model_sendWord_111 rfl (lv_at hl 2 rfl) ?_
          refine lv_iconst (v := (nI 3)) hx hb d_Model_sendWord_112 (by decide) ?_
          refine lv_iconst (v := (nI 1)) hx hb d_Model_sendWord_113 (by decide) ?_
          obtain ⟨h114, hv, hm⟩ := zbd hm
          obtain ⟨hq, hv⟩ := zcv_at hv
          refine z_cv hI (z_runV (As := [.int x1, .int (nI 3), .int (nI 1)]) (rest := []) X hI hl.1 (c_Model_add l G K a0 x1 (nI 3) (nI 1) h14 _ hv) C_Model_151 rfl hq (Nat.le_of_ble_eq_true rfl) ⟨Nat.le_of_ble_eq_true rfl, Nat.le_of_ble_eq_true rfl, Nat.zero_le _, Nat.zero_le _⟩ rfl d_Model_sendWord_114) (fun H locs hI => ?_)
          exact r_Model_sendWord_117 X a0 x1 x2 (nI 0) h114 hm hI (lv_sub hl [1, 2, 3, 0] rfl)
  · replace hm := zif_t hc24 hm
    refine lv_aload_n hx hb d_Model_sendWord_27 rfl (lv_at hl 1 rfl) ?_
    refine lv_iload_n hx hb d_Model_sendWord_28 rfl (lv_at hl 2 rfl) ?_
    refine lv_iconst (v := (nI 3)) hx hb d_Model_sendWord_29 (by decide) ?_
    obtain ⟨v30, hv, hm⟩ := zbd hm
    obtain ⟨hq, hv⟩ := zcv_at hv
    refine z_ci hI (z_runV (As := [.int x1, .int (nI 3)]) (rest := []) X hI hl.1 (c_Model_of l G K a0 x1 (nI 3) h14 _ hv) C_Model_155 rfl hq (Nat.le_of_ble_eq_true rfl) ⟨Nat.le_of_ble_eq_true rfl, Nat.le_of_ble_eq_true rfl, Nat.zero_le _, Nat.zero_le _⟩ rfl d_Model_sendWord_30) (fun H locs hI => ?_)
    refine lv_iconst (v := (nI 1)) hx hb d_Model_sendWord_33 (by decide) ?_
    refine lv_icmp_gt (tgt := 57) hx hb d_Model_sendWord_34 (by decide) (fun hc34 => ?_) (fun hc34 => ?_)
    · replace hm := zif_t hc34 hm
      exact r_Model_sendWord_57 X a0 x1 x2 h14 hm hI (lv_sub hl [1, 2, 3] rfl)
    · replace hm := zif_f hc34 hm
      refine lv_aload_n hx hb d_Model_sendWord_37 rfl (lv_at hl 1 rfl) ?_
      refine lv_iload_n hx hb d_Model_sendWord_38 rfl (lv_at hl 2 rfl) ?_
      refine lv_iconst (v := (nI 3)) hx hb d_Model_sendWord_39 (by decide) ?_
      refine lv_bipush (v := (nI 64)) hx hb d_Model_sendWord_40 (by decide) ?_
      obtain ⟨h42, hv, hm⟩ := zbd hm
      obtain ⟨hq, hv⟩ := zcv_at hv
      refine z_cv hI (z_runV (As := [.int x1, .int (nI 3), .int (nI 64)]) (rest := []) X hI hl.1 (c_Model_add l G K a0 x1 (nI 3) (nI 64) h14 _ hv) C_Model_151 rfl hq (Nat.le_of_ble_eq_true rfl) ⟨Nat.le_of_ble_eq_true rfl, Nat.le_of_ble_eq_true rfl, Nat.zero_le _, Nat.zero_le _⟩ rfl d_Model_sendWord_42) (fun H locs hI => ?_)
      refine lv_aload_n hx hb d_Model_sendWord_45 rfl (lv_at hl 1 rfl) ?_
      obtain ⟨v46, hv, hm⟩ := zbd hm
      refine z_getR X hI F_Model_22 hv d_Model_sendWord_46 ?_
      refine lv_bipush (v := (nI 86)) hx hb d_Model_sendWord_49 (by decide) ?_
      refine lv_dup2_11 hx hb d_Model_sendWord_51 rfl rfl ?_
      obtain ⟨v52, hv, hm⟩ := zbd hm
      refine z_iald X hI hv d_Model_sendWord_52 ?_
      refine lv_bipush (v := (nI 64)) hx hb d_Model_sendWord_53 (by decide) ?_
      refine lv_iadd hx hb d_Model_sendWord_55 ?_
      obtain ⟨h56, hv, hm⟩ := zbd hm
      refine z_iast X hI hv d_Model_sendWord_56 (fun H locs hI => ?_)
      exact r_Model_sendWord_57 X a0 x1 x2 h56 hm hI (lv_sub hl [1, 2, 3] rfl)
set_option maxHeartbeats 4000000 in
set_option maxRecDepth 100000 in
theorem c_Model_sendWord (l : Launch) (G : zG) (K : Nat) (a0 : Nat) (x1 : Int32) (x2 : Int32) (h : zH) (h' : zH) (hm : m_Model_sendWord a0 x1 x2 h = some h') : zMv l G K y_Model_sendWord prog_9_method_26_code 4 2 [.ref (G.1 a0), .int x1, .int x2] h h' := zMet (by decide +kernel) (Nat.le_of_ble_eq_true rfl) (fun p e s m below meth c ls X hI hl => r_Model_sendWord_0 X a0 x1 x2 h hm hI hl)
