/-! THE CONSTRUCTOR OF AllHome -/
theorem d_Home_init_0 : decode prog_1_method_1_code 0 = .ok (.aload_n 0, 1) := by decide +kernel
theorem d_Home_init_1 : decode prog_1_method_1_code 1 = .ok (.invokespecial 3, 3) := by decide +kernel
theorem d_Home_init_4 : decode prog_1_method_1_code 4 = .ok (.aload_n 0, 1) := by decide +kernel
theorem d_Home_init_5 : decode prog_1_method_1_code 5 = .ok (.bipush 60, 2) := by decide +kernel
theorem d_Home_init_7 : decode prog_1_method_1_code 7 = .ok (.newarray .int, 2) := by decide +kernel
theorem d_Home_init_9 : decode prog_1_method_1_code 9 = .ok (.putfield 9, 3) := by decide +kernel
theorem d_Home_init_12 : decode prog_1_method_1_code 12 = .ok (.aload_n 0, 1) := by decide +kernel
theorem d_Home_init_13 : decode prog_1_method_1_code 13 = .ok (.new 13, 3) := by decide +kernel
theorem d_Home_init_16 : decode prog_1_method_1_code 16 = .ok (.dup, 1) := by decide +kernel
theorem d_Home_init_17 : decode prog_1_method_1_code 17 = .ok (.invokespecial 15, 3) := by decide +kernel
theorem d_Home_init_20 : decode prog_1_method_1_code 20 = .ok (.putfield 16, 3) := by decide +kernel
theorem d_Home_init_23 : decode prog_1_method_1_code 23 = .ok (.aload_n 0, 1) := by decide +kernel
theorem d_Home_init_24 : decode prog_1_method_1_code 24 = .ok (.bipush 10, 2) := by decide +kernel
theorem d_Home_init_26 : decode prog_1_method_1_code 26 = .ok (.newarray .int, 2) := by decide +kernel
theorem d_Home_init_28 : decode prog_1_method_1_code 28 = .ok (.putfield 20, 3) := by decide +kernel
theorem d_Home_init_31 : decode prog_1_method_1_code 31 = .ok (.aload_n 0, 1) := by decide +kernel
theorem d_Home_init_32 : decode prog_1_method_1_code 32 = .ok (.iconst 4, 1) := by decide +kernel
theorem d_Home_init_33 : decode prog_1_method_1_code 33 = .ok (.anewarray 23, 3) := by decide +kernel
theorem d_Home_init_36 : decode prog_1_method_1_code 36 = .ok (.putfield 25, 3) := by decide +kernel
theorem d_Home_init_39 : decode prog_1_method_1_code 39 = .ok (.aload_n 0, 1) := by decide +kernel
theorem d_Home_init_40 : decode prog_1_method_1_code 40 = .ok (.bipush 123, 2) := by decide +kernel
theorem d_Home_init_42 : decode prog_1_method_1_code 42 = .ok (.newarray .int, 2) := by decide +kernel
theorem d_Home_init_44 : decode prog_1_method_1_code 44 = .ok (.putfield 29, 3) := by decide +kernel
theorem d_Home_init_47 : decode prog_1_method_1_code 47 = .ok (.aload_n 0, 1) := by decide +kernel
theorem d_Home_init_48 : decode prog_1_method_1_code 48 = .ok (.new 32, 3) := by decide +kernel
theorem d_Home_init_51 : decode prog_1_method_1_code 51 = .ok (.dup, 1) := by decide +kernel
theorem d_Home_init_52 : decode prog_1_method_1_code 52 = .ok (.aload_n 0, 1) := by decide +kernel
theorem d_Home_init_53 : decode prog_1_method_1_code 53 = .ok (.getfield 16, 3) := by decide +kernel
theorem d_Home_init_56 : decode prog_1_method_1_code 56 = .ok (.invokespecial 34, 3) := by decide +kernel
theorem d_Home_init_59 : decode prog_1_method_1_code 59 = .ok (.putfield 37, 3) := by decide +kernel
theorem d_Home_init_62 : decode prog_1_method_1_code 62 = .ok (.aload_n 0, 1) := by decide +kernel
theorem d_Home_init_63 : decode prog_1_method_1_code 63 = .ok (.new 32, 3) := by decide +kernel
theorem d_Home_init_66 : decode prog_1_method_1_code 66 = .ok (.dup, 1) := by decide +kernel
theorem d_Home_init_67 : decode prog_1_method_1_code 67 = .ok (.aload_n 0, 1) := by decide +kernel
theorem d_Home_init_68 : decode prog_1_method_1_code 68 = .ok (.getfield 16, 3) := by decide +kernel
theorem d_Home_init_71 : decode prog_1_method_1_code 71 = .ok (.invokespecial 34, 3) := by decide +kernel
theorem d_Home_init_74 : decode prog_1_method_1_code 74 = .ok (.putfield 41, 3) := by decide +kernel
theorem d_Home_init_77 : decode prog_1_method_1_code 77 = .ok (.aload_n 0, 1) := by decide +kernel
theorem d_Home_init_78 : decode prog_1_method_1_code 78 = .ok (.new 44, 3) := by decide +kernel
theorem d_Home_init_81 : decode prog_1_method_1_code 81 = .ok (.dup, 1) := by decide +kernel
theorem d_Home_init_82 : decode prog_1_method_1_code 82 = .ok (.invokespecial 46, 3) := by decide +kernel
theorem d_Home_init_85 : decode prog_1_method_1_code 85 = .ok (.putfield 47, 3) := by decide +kernel
theorem d_Home_init_88 : decode prog_1_method_1_code 88 = .ok (.aload_n 0, 1) := by decide +kernel
theorem d_Home_init_89 : decode prog_1_method_1_code 89 = .ok (.bipush 6, 2) := by decide +kernel
theorem d_Home_init_91 : decode prog_1_method_1_code 91 = .ok (.anewarray 51, 3) := by decide +kernel
theorem d_Home_init_94 : decode prog_1_method_1_code 94 = .ok (.putfield 53, 3) := by decide +kernel
theorem d_Home_init_97 : decode prog_1_method_1_code 97 = .ok (.iconst 0, 1) := by decide +kernel
theorem d_Home_init_98 : decode prog_1_method_1_code 98 = .ok (.istore_n 1, 1) := by decide +kernel
theorem d_Home_init_99 : decode prog_1_method_1_code 99 = .ok (.iload_n 1, 1) := by decide +kernel
theorem d_Home_init_100 : decode prog_1_method_1_code 100 = .ok (.iconst 4, 1) := by decide +kernel
theorem d_Home_init_101 : decode prog_1_method_1_code 101 = .ok (.if_icmp .ge 26, 3) := by decide +kernel
theorem d_Home_init_104 : decode prog_1_method_1_code 104 = .ok (.aload_n 0, 1) := by decide +kernel
theorem d_Home_init_105 : decode prog_1_method_1_code 105 = .ok (.getfield 25, 3) := by decide +kernel
theorem d_Home_init_108 : decode prog_1_method_1_code 108 = .ok (.iload_n 1, 1) := by decide +kernel
theorem d_Home_init_109 : decode prog_1_method_1_code 109 = .ok (.new 23, 3) := by decide +kernel
theorem d_Home_init_112 : decode prog_1_method_1_code 112 = .ok (.dup, 1) := by decide +kernel
theorem d_Home_init_113 : decode prog_1_method_1_code 113 = .ok (.aload_n 0, 1) := by decide +kernel
theorem d_Home_init_114 : decode prog_1_method_1_code 114 = .ok (.getfield 16, 3) := by decide +kernel
theorem d_Home_init_117 : decode prog_1_method_1_code 117 = .ok (.invokespecial 57, 3) := by decide +kernel
theorem d_Home_init_120 : decode prog_1_method_1_code 120 = .ok (.aastore, 1) := by decide +kernel
theorem d_Home_init_121 : decode prog_1_method_1_code 121 = .ok (.iinc 1 1, 3) := by decide +kernel
theorem d_Home_init_124 : decode prog_1_method_1_code 124 = .ok (.goto (-25), 3) := by decide +kernel
theorem d_Home_init_127 : decode prog_1_method_1_code 127 = .ok (.iconst 0, 1) := by decide +kernel
theorem d_Home_init_128 : decode prog_1_method_1_code 128 = .ok (.istore_n 1, 1) := by decide +kernel
theorem d_Home_init_129 : decode prog_1_method_1_code 129 = .ok (.iload_n 1, 1) := by decide +kernel
theorem d_Home_init_130 : decode prog_1_method_1_code 130 = .ok (.bipush 6, 2) := by decide +kernel
theorem d_Home_init_132 : decode prog_1_method_1_code 132 = .ok (.if_icmp .ge 22, 3) := by decide +kernel
theorem d_Home_init_135 : decode prog_1_method_1_code 135 = .ok (.aload_n 0, 1) := by decide +kernel
theorem d_Home_init_136 : decode prog_1_method_1_code 136 = .ok (.getfield 53, 3) := by decide +kernel
theorem d_Home_init_139 : decode prog_1_method_1_code 139 = .ok (.iload_n 1, 1) := by decide +kernel
theorem d_Home_init_140 : decode prog_1_method_1_code 140 = .ok (.new 51, 3) := by decide +kernel
theorem d_Home_init_143 : decode prog_1_method_1_code 143 = .ok (.dup, 1) := by decide +kernel
theorem d_Home_init_144 : decode prog_1_method_1_code 144 = .ok (.invokespecial 58, 3) := by decide +kernel
theorem d_Home_init_147 : decode prog_1_method_1_code 147 = .ok (.aastore, 1) := by decide +kernel
theorem d_Home_init_148 : decode prog_1_method_1_code 148 = .ok (.iinc 1 1, 3) := by decide +kernel
theorem d_Home_init_151 : decode prog_1_method_1_code 151 = .ok (.goto (-22), 3) := by decide +kernel
theorem d_Home_init_154 : decode prog_1_method_1_code 154 = .ok (.return_, 1) := by decide +kernel
def i_Home_init (h : zH) : zH := zup (zup (i_Shelf_init 668 (zup (zup (i_Shelf_init 666 (zup (zup (i_Shelf_init 664 (zup (zup (i_Shelf_init 662 (zup (zup (i_Shelf_init 660 (zup (zup (i_Shelf_init 658 (zup (zup (i_Run_init 655 2 (zup (zup (i_Run_init 652 2 (zup (zup (i_Run_init 649 2 (zup (zup (i_Run_init 646 2 (zup (zup (i_Acts_init 643 (zup (i_Orders_init 332 2 (zup (i_Orders_init 21 2 (zup (zup (zup (zup (i_Huts_init 2 (zup (zup h 1 (zI32 60 zZ0)) 2 (.inl (1, [.null, .null, .null, .int 0])))) 18 (zI32 10 zZ0)) 19 (zRf 3 4 (fun _ => none))) 20 (zI32 123 zZ0)) 21 (.inl (2, [.null, .null, .null, .null, .null, .null, .null, .null, .null, .null, .null, .int 0, .int 0, .int 0])))) 332 (.inl (2, [.null, .null, .null, .null, .null, .null, .null, .null, .null, .null, .null, .int 0, .int 0, .int 0])))) 643 (.inl (0, [.null, .int 0, .int 0, .int 0])))) 645 (zRf 4 6 (fun _ => none))) 646 (.inl (4, [.null, .null, .int 0, .int 0, .int 0, .int 0])))) 19 (zRf 3 4 (fun k => if k = 0 then some 646 else (fun _ => none) k))) 649 (.inl (4, [.null, .null, .int 0, .int 0, .int 0, .int 0])))) 19 (zRf 3 4 (fun k => if k = 1 then some 649 else (fun k => if k = 0 then some 646 else (fun _ => none) k) k))) 652 (.inl (4, [.null, .null, .int 0, .int 0, .int 0, .int 0])))) 19 (zRf 3 4 (fun k => if k = 2 then some 652 else (fun k => if k = 1 then some 649 else (fun k => if k = 0 then some 646 else (fun _ => none) k) k) k))) 655 (.inl (4, [.null, .null, .int 0, .int 0, .int 0, .int 0])))) 19 (zRf 3 4 (fun k => if k = 3 then some 655 else (fun k => if k = 2 then some 652 else (fun k => if k = 1 then some 649 else (fun k => if k = 0 then some 646 else (fun _ => none) k) k) k) k))) 658 (.inl (5, [.null, .int 0, .int 0, .int 0])))) 645 (zRf 4 6 (fun k => if k = 0 then some 658 else (fun _ => none) k))) 660 (.inl (5, [.null, .int 0, .int 0, .int 0])))) 645 (zRf 4 6 (fun k => if k = 1 then some 660 else (fun k => if k = 0 then some 658 else (fun _ => none) k) k))) 662 (.inl (5, [.null, .int 0, .int 0, .int 0])))) 645 (zRf 4 6 (fun k => if k = 2 then some 662 else (fun k => if k = 1 then some 660 else (fun k => if k = 0 then some 658 else (fun _ => none) k) k) k))) 664 (.inl (5, [.null, .int 0, .int 0, .int 0])))) 645 (zRf 4 6 (fun k => if k = 3 then some 664 else (fun k => if k = 2 then some 662 else (fun k => if k = 1 then some 660 else (fun k => if k = 0 then some 658 else (fun _ => none) k) k) k) k))) 666 (.inl (5, [.null, .int 0, .int 0, .int 0])))) 645 (zRf 4 6 (fun k => if k = 4 then some 666 else (fun k => if k = 3 then some 664 else (fun k => if k = 2 then some 662 else (fun k => if k = 1 then some 660 else (fun k => if k = 0 then some 658 else (fun _ => none) k) k) k) k) k))) 668 (.inl (5, [.null, .int 0, .int 0, .int 0])))) 645 (zRf 4 6 (fun k => if k = 5 then some 668 else (fun k => if k = 4 then some 666 else (fun k => if k = 3 then some 664 else (fun k => if k = 2 then some 662 else (fun k => if k = 1 then some 660 else (fun k => if k = 0 then some 658 else (fun _ => none) k) k) k) k) k) k))) 0 (.inl (6, [.ref 1, .int 0, .ref 2, .ref 18, .int 0, .ref 19, .int 0, .ref 20, .ref 21, .ref 332, .ref 643, .ref 645]))
set_option maxHeartbeats 4000000 in
set_option maxRecDepth 100000 in
theorem ci_Home_init (l : Launch) (G : zG) (S0 : Nat) (hG : bG1 G S0) (h : zH) (hr : h 0 = (.inl (6, [.null, .int 0, .null, .null, .int 0, .null, .int 0, .null, .null, .null, .null, .null]))) : bMt l G S0 1 y_Home_init prog_1_method_1_code 2 3 669 49037 [.ref (G.1 0)] h 670 (i_Home_init h) := by
  refine b_met (by decide +kernel) rfl (Nat.le_of_ble_eq_true rfl) hG fun p e s m below meth c ls X hX hin hz hI hl => ?_
  obtain ⟨hx, hb, hml, hown, hts, -, hlocks, hK, hST, hNs⟩ := id X
  have hl : lv_has ls 2 [(0, .ref (G.1 0))] := hl
  have hI : zI G 1 s (bA S0) s.heap [] (zup h 0 (.inl (6, [.null, .int 0, .null, .null, .int 0, .null, .int 0, .null, .null, .null, .null, .null]))) := by rw [zup_self hr]; exact hI
  refine lv_aload_n hx hb d_Home_init_0 rfl (lv_at hl 0 rfl) ?_
  refine W.objInit hx hb hown (hts _ kw17) (hts _ kw18) (hts _ kw19) rfl (by rw [hml]; exact hl.1) rfl d_Home_init_1 (Nat.le_of_ble_eq_true rfl) (Nat.le_of_ble_eq_true rfl) ?_
  refine W.eq (g2 := F0 m 4 ls []) rfl ?_
  refine lv_aload_n hx hb d_Home_init_4 rfl (lv_at hl 0 rfl) ?_
  refine lv_bipush (v := (nI 60)) hx hb d_Home_init_5 (by decide) ?_
  refine b_newI X hI hG ⟨by have := hz.1; omega, by omega⟩ kw41 (N := 60) (by omega) (Nat.le_of_ble_eq_true rfl) (Nat.le_of_ble_eq_true rfl) d_Home_init_7 (fun H hI => ?_)
  replace hI := b_sw (K2 := 2) (by omega) hI rfl
  refine b_putF X hin hI P_Home_9 (v := .ref 1) (by simp) rfl rfl d_Home_init_9 (fun H locs hI => ?_)
  have hI : zI G 2 s (bA S0) H locs (zup (zup h 1 (zI32 60 zZ0)) 0 (.inl (6, [.ref 1, .int 0, .null, .null, .int 0, .null, .int 0, .null, .null, .null, .null, .null]))) := hI
  refine lv_aload_n hx hb d_Home_init_12 rfl (lv_at hl 0 rfl) ?_
  refine b_newO (C := "AllHome$Huts") (T := nT1) (N := 4) (ci := 1) X hI hG ⟨by have := hz.1; omega, by omega⟩ rfl nI1 nY1 nP1 kw20 kw21 kw2 (fs := [.null, .null, .null, .int 0]) (by decide) rfl (Nat.le_of_ble_eq_true rfl) (Nat.le_of_ble_eq_true rfl) d_Home_init_13 (fun H hI => ?_)
  replace hI := b_sw (K2 := 3) (by omega) hI rfl
  refine lv_dup hx hb d_Home_init_16 rfl ?_
  refine b_callN (As := []) (rest := [.ref (G.1 2), .ref (G.1 0)]) X hX hI hG ⟨by have := hz.1; omega, by omega⟩ hl.1 (ci_Huts_init l G S0 hG 2 (zup (zup (zup h 1 (zI32 60 zZ0)) 2 (.inl (1, [.null, .null, .null, .int 0]))) 0 (.inl (6, [.ref 1, .int 0, .null, .null, .int 0, .null, .int 0, .null, .null, .null, .null, .null]))) (by rw [zup_ne (by omega), zup_eq])) J_Home_15 rfl (Nat.le_of_ble_eq_true rfl) ⟨(Nat.le_of_ble_eq_true rfl), (Nat.le_of_ble_eq_true rfl), (Nat.le_of_ble_eq_true rfl), (Nat.le_of_ble_eq_true rfl)⟩ rfl d_Home_init_17 (fun H locs hI => ?_)
  replace hI := i_Huts_init_sw (a := 0) (K2 := 18) (by omega) hI rfl
  refine b_putF X hin hI P_Home_16 (v := .ref 2) (by simp) rfl rfl d_Home_init_20 (fun H locs hI => ?_)
  have hI : zI G 18 s (bA S0) H locs (zup (i_Huts_init 2 (zup (zup h 1 (zI32 60 zZ0)) 2 (.inl (1, [.null, .null, .null, .int 0])))) 0 (.inl (6, [.ref 1, .int 0, .ref 2, .null, .int 0, .null, .int 0, .null, .null, .null, .null, .null]))) := hI
  refine lv_aload_n hx hb d_Home_init_23 rfl (lv_at hl 0 rfl) ?_
  refine lv_bipush (v := (nI 10)) hx hb d_Home_init_24 (by decide) ?_
  refine b_newI X hI hG ⟨by have := hz.1; omega, by omega⟩ kw41 (N := 10) (by omega) (Nat.le_of_ble_eq_true rfl) (Nat.le_of_ble_eq_true rfl) d_Home_init_26 (fun H hI => ?_)
  replace hI := b_sw (K2 := 19) (by omega) hI rfl
  refine b_putF X hin hI P_Home_20 (v := .ref 18) (by simp) rfl rfl d_Home_init_28 (fun H locs hI => ?_)
  have hI : zI G 19 s (bA S0) H locs (zup (zup (i_Huts_init 2 (zup (zup h 1 (zI32 60 zZ0)) 2 (.inl (1, [.null, .null, .null, .int 0])))) 18 (zI32 10 zZ0)) 0 (.inl (6, [.ref 1, .int 0, .ref 2, .ref 18, .int 0, .null, .int 0, .null, .null, .null, .null, .null]))) := hI
  refine lv_aload_n hx hb d_Home_init_31 rfl (lv_at hl 0 rfl) ?_
  refine lv_iconst (v := (nI 4)) hx hb d_Home_init_32 (by decide) ?_
  refine b_newq (C := "AllHome$Run") (t := 3) X hI hG ⟨by have := hz.1; omega, by omega⟩ kw42 hX.2.1 rfl (N := 4) (by omega) (Nat.le_of_ble_eq_true rfl) (Nat.le_of_ble_eq_true rfl) d_Home_init_33 (fun H hI => ?_)
  replace hI := b_sw (K2 := 20) (by omega) hI rfl
  refine b_putF X hin hI P_Home_25 (v := .ref 19) (by simp) rfl rfl d_Home_init_36 (fun H locs hI => ?_)
  have hI : zI G 20 s (bA S0) H locs (zup (zup (zup (i_Huts_init 2 (zup (zup h 1 (zI32 60 zZ0)) 2 (.inl (1, [.null, .null, .null, .int 0])))) 18 (zI32 10 zZ0)) 19 (zRf 3 4 (fun _ => none))) 0 (.inl (6, [.ref 1, .int 0, .ref 2, .ref 18, .int 0, .ref 19, .int 0, .null, .null, .null, .null, .null]))) := hI
  refine lv_aload_n hx hb d_Home_init_39 rfl (lv_at hl 0 rfl) ?_
  refine lv_bipush (v := (nI 123)) hx hb d_Home_init_40 (by decide) ?_
  refine b_newI X hI hG ⟨by have := hz.1; omega, by omega⟩ kw41 (N := 123) (by omega) (Nat.le_of_ble_eq_true rfl) (Nat.le_of_ble_eq_true rfl) d_Home_init_42 (fun H hI => ?_)
  replace hI := b_sw (K2 := 21) (by omega) hI rfl
  refine b_putF X hin hI P_Home_29 (v := .ref 20) (by simp) rfl rfl d_Home_init_44 (fun H locs hI => ?_)
  have hI : zI G 21 s (bA S0) H locs (zup (zup (zup (zup (i_Huts_init 2 (zup (zup h 1 (zI32 60 zZ0)) 2 (.inl (1, [.null, .null, .null, .int 0])))) 18 (zI32 10 zZ0)) 19 (zRf 3 4 (fun _ => none))) 20 (zI32 123 zZ0)) 0 (.inl (6, [.ref 1, .int 0, .ref 2, .ref 18, .int 0, .ref 19, .int 0, .ref 20, .null, .null, .null, .null]))) := hI
  refine lv_aload_n hx hb d_Home_init_47 rfl (lv_at hl 0 rfl) ?_
  refine b_newO (C := "AllHome$Orders") (T := nT2) (N := 14) (ci := 2) X hI hG ⟨by have := hz.1; omega, by omega⟩ rfl nI2 nY2 nP2 kw44 kw45 kw3 (fs := [.null, .null, .null, .null, .null, .null, .null, .null, .null, .null, .null, .int 0, .int 0, .int 0]) (by decide) rfl (Nat.le_of_ble_eq_true rfl) (Nat.le_of_ble_eq_true rfl) d_Home_init_48 (fun H hI => ?_)
  replace hI := b_sw (K2 := 22) (by omega) hI rfl
  refine lv_dup hx hb d_Home_init_51 rfl ?_
  refine lv_aload_n hx hb d_Home_init_52 rfl (lv_at hl 0 rfl) ?_
  refine b_getR X (a := 0) hI (zup_eq _ _ _) F_Home_16 (x := 2) rfl d_Home_init_53 ?_
  refine b_call (As := [.ref (G.1 2)]) (rest := [.ref (G.1 21), .ref (G.1 0)]) X hX hI hG ⟨by have := hz.1; omega, by omega⟩ hl.1 (ci_Orders_init l G S0 hG 21 2 (zup (zup (zup (zup (zup (i_Huts_init 2 (zup (zup h 1 (zI32 60 zZ0)) 2 (.inl (1, [.null, .null, .null, .int 0])))) 18 (zI32 10 zZ0)) 19 (zRf 3 4 (fun _ => none))) 20 (zI32 123 zZ0)) 21 (.inl (2, [.null, .null, .null, .null, .null, .null, .null, .null, .null, .null, .null, .int 0, .int 0, .int 0]))) 0 (.inl (6, [.ref 1, .int 0, .ref 2, .ref 18, .int 0, .ref 19, .int 0, .ref 20, .null, .null, .null, .null]))) (by rw [zup_ne (by omega), zup_eq])) J_Home_34 rfl (Nat.le_of_ble_eq_true rfl) ⟨(Nat.le_of_ble_eq_true rfl), (Nat.le_of_ble_eq_true rfl), (Nat.le_of_ble_eq_true rfl), (Nat.le_of_ble_eq_true rfl)⟩ rfl d_Home_init_56 (fun H locs hI => ?_)
  replace hI := i_Orders_init_sw (a := 0) (K2 := 332) (by omega) hI rfl
  refine b_putF X hin hI P_Home_37 (v := .ref 21) (by simp) rfl rfl d_Home_init_59 (fun H locs hI => ?_)
  have hI : zI G 332 s (bA S0) H locs (zup (i_Orders_init 21 2 (zup (zup (zup (zup (i_Huts_init 2 (zup (zup h 1 (zI32 60 zZ0)) 2 (.inl (1, [.null, .null, .null, .int 0])))) 18 (zI32 10 zZ0)) 19 (zRf 3 4 (fun _ => none))) 20 (zI32 123 zZ0)) 21 (.inl (2, [.null, .null, .null, .null, .null, .null, .null, .null, .null, .null, .null, .int 0, .int 0, .int 0])))) 0 (.inl (6, [.ref 1, .int 0, .ref 2, .ref 18, .int 0, .ref 19, .int 0, .ref 20, .ref 21, .null, .null, .null]))) := hI
  refine lv_aload_n hx hb d_Home_init_62 rfl (lv_at hl 0 rfl) ?_
  refine b_newO (C := "AllHome$Orders") (T := nT2) (N := 14) (ci := 2) X hI hG ⟨by have := hz.1; omega, by omega⟩ rfl nI2 nY2 nP2 kw44 kw45 kw3 (fs := [.null, .null, .null, .null, .null, .null, .null, .null, .null, .null, .null, .int 0, .int 0, .int 0]) (by decide) rfl (Nat.le_of_ble_eq_true rfl) (Nat.le_of_ble_eq_true rfl) d_Home_init_63 (fun H hI => ?_)
  replace hI := b_sw (K2 := 333) (by omega) hI rfl
  refine lv_dup hx hb d_Home_init_66 rfl ?_
  refine lv_aload_n hx hb d_Home_init_67 rfl (lv_at hl 0 rfl) ?_
  refine b_getR X (a := 0) hI (zup_eq _ _ _) F_Home_16 (x := 2) rfl d_Home_init_68 ?_
  refine b_call (As := [.ref (G.1 2)]) (rest := [.ref (G.1 332), .ref (G.1 0)]) X hX hI hG ⟨by have := hz.1; omega, by omega⟩ hl.1 (ci_Orders_init l G S0 hG 332 2 (zup (zup (i_Orders_init 21 2 (zup (zup (zup (zup (i_Huts_init 2 (zup (zup h 1 (zI32 60 zZ0)) 2 (.inl (1, [.null, .null, .null, .int 0])))) 18 (zI32 10 zZ0)) 19 (zRf 3 4 (fun _ => none))) 20 (zI32 123 zZ0)) 21 (.inl (2, [.null, .null, .null, .null, .null, .null, .null, .null, .null, .null, .null, .int 0, .int 0, .int 0])))) 332 (.inl (2, [.null, .null, .null, .null, .null, .null, .null, .null, .null, .null, .null, .int 0, .int 0, .int 0]))) 0 (.inl (6, [.ref 1, .int 0, .ref 2, .ref 18, .int 0, .ref 19, .int 0, .ref 20, .ref 21, .null, .null, .null]))) (by rw [zup_ne (by omega), zup_eq])) J_Home_34 rfl (Nat.le_of_ble_eq_true rfl) ⟨(Nat.le_of_ble_eq_true rfl), (Nat.le_of_ble_eq_true rfl), (Nat.le_of_ble_eq_true rfl), (Nat.le_of_ble_eq_true rfl)⟩ rfl d_Home_init_71 (fun H locs hI => ?_)
  replace hI := i_Orders_init_sw (a := 0) (K2 := 643) (by omega) hI rfl
  refine b_putF X hin hI P_Home_41 (v := .ref 332) (by simp) rfl rfl d_Home_init_74 (fun H locs hI => ?_)
  have hI : zI G 643 s (bA S0) H locs (zup (i_Orders_init 332 2 (zup (i_Orders_init 21 2 (zup (zup (zup (zup (i_Huts_init 2 (zup (zup h 1 (zI32 60 zZ0)) 2 (.inl (1, [.null, .null, .null, .int 0])))) 18 (zI32 10 zZ0)) 19 (zRf 3 4 (fun _ => none))) 20 (zI32 123 zZ0)) 21 (.inl (2, [.null, .null, .null, .null, .null, .null, .null, .null, .null, .null, .null, .int 0, .int 0, .int 0])))) 332 (.inl (2, [.null, .null, .null, .null, .null, .null, .null, .null, .null, .null, .null, .int 0, .int 0, .int 0])))) 0 (.inl (6, [.ref 1, .int 0, .ref 2, .ref 18, .int 0, .ref 19, .int 0, .ref 20, .ref 21, .ref 332, .null, .null]))) := hI
  refine lv_aload_n hx hb d_Home_init_77 rfl (lv_at hl 0 rfl) ?_
  refine b_newO (C := "AllHome$Acts") (T := nT0) (N := 4) (ci := 0) X hI hG ⟨by have := hz.1; omega, by omega⟩ rfl nI0 nY0 nP0 kw111 kw112 kw5 (fs := [.null, .int 0, .int 0, .int 0]) (by decide) rfl (Nat.le_of_ble_eq_true rfl) (Nat.le_of_ble_eq_true rfl) d_Home_init_78 (fun H hI => ?_)
  replace hI := b_sw (K2 := 644) (by omega) hI rfl
  refine lv_dup hx hb d_Home_init_81 rfl ?_
  refine b_callN (As := []) (rest := [.ref (G.1 643), .ref (G.1 0)]) X hX hI hG ⟨by have := hz.1; omega, by omega⟩ hl.1 (ci_Acts_init l G S0 hG 643 (zup (zup (i_Orders_init 332 2 (zup (i_Orders_init 21 2 (zup (zup (zup (zup (i_Huts_init 2 (zup (zup h 1 (zI32 60 zZ0)) 2 (.inl (1, [.null, .null, .null, .int 0])))) 18 (zI32 10 zZ0)) 19 (zRf 3 4 (fun _ => none))) 20 (zI32 123 zZ0)) 21 (.inl (2, [.null, .null, .null, .null, .null, .null, .null, .null, .null, .null, .null, .int 0, .int 0, .int 0])))) 332 (.inl (2, [.null, .null, .null, .null, .null, .null, .null, .null, .null, .null, .null, .int 0, .int 0, .int 0])))) 643 (.inl (0, [.null, .int 0, .int 0, .int 0]))) 0 (.inl (6, [.ref 1, .int 0, .ref 2, .ref 18, .int 0, .ref 19, .int 0, .ref 20, .ref 21, .ref 332, .null, .null]))) (by rw [zup_ne (by omega), zup_eq])) J_Home_46 rfl (Nat.le_of_ble_eq_true rfl) ⟨(Nat.le_of_ble_eq_true rfl), (Nat.le_of_ble_eq_true rfl), (Nat.le_of_ble_eq_true rfl), (Nat.le_of_ble_eq_true rfl)⟩ rfl d_Home_init_82 (fun H locs hI => ?_)
  replace hI := i_Acts_init_sw (a := 0) (K2 := 645) (by omega) hI rfl
  refine b_putF X hin hI P_Home_47 (v := .ref 643) (by simp) rfl rfl d_Home_init_85 (fun H locs hI => ?_)
  have hI : zI G 645 s (bA S0) H locs (zup (i_Acts_init 643 (zup (i_Orders_init 332 2 (zup (i_Orders_init 21 2 (zup (zup (zup (zup (i_Huts_init 2 (zup (zup h 1 (zI32 60 zZ0)) 2 (.inl (1, [.null, .null, .null, .int 0])))) 18 (zI32 10 zZ0)) 19 (zRf 3 4 (fun _ => none))) 20 (zI32 123 zZ0)) 21 (.inl (2, [.null, .null, .null, .null, .null, .null, .null, .null, .null, .null, .null, .int 0, .int 0, .int 0])))) 332 (.inl (2, [.null, .null, .null, .null, .null, .null, .null, .null, .null, .null, .null, .int 0, .int 0, .int 0])))) 643 (.inl (0, [.null, .int 0, .int 0, .int 0])))) 0 (.inl (6, [.ref 1, .int 0, .ref 2, .ref 18, .int 0, .ref 19, .int 0, .ref 20, .ref 21, .ref 332, .ref 643, .null]))) := hI
  refine lv_aload_n hx hb d_Home_init_88 rfl (lv_at hl 0 rfl) ?_
  refine lv_bipush (v := (nI 6)) hx hb d_Home_init_89 (by decide) ?_
  refine b_newq (C := "AllHome$Shelf") (t := 4) X hI hG ⟨by have := hz.1; omega, by omega⟩ kw130 hX.2.2 rfl (N := 6) (by omega) (Nat.le_of_ble_eq_true rfl) (Nat.le_of_ble_eq_true rfl) d_Home_init_91 (fun H hI => ?_)
  replace hI := b_sw (K2 := 646) (by omega) hI rfl
  refine b_putF X hin hI P_Home_53 (v := .ref 645) (by simp) rfl rfl d_Home_init_94 (fun H locs hI => ?_)
  have hI : zI G 646 s (bA S0) H locs (zup (zup (i_Acts_init 643 (zup (i_Orders_init 332 2 (zup (i_Orders_init 21 2 (zup (zup (zup (zup (i_Huts_init 2 (zup (zup h 1 (zI32 60 zZ0)) 2 (.inl (1, [.null, .null, .null, .int 0])))) 18 (zI32 10 zZ0)) 19 (zRf 3 4 (fun _ => none))) 20 (zI32 123 zZ0)) 21 (.inl (2, [.null, .null, .null, .null, .null, .null, .null, .null, .null, .null, .null, .int 0, .int 0, .int 0])))) 332 (.inl (2, [.null, .null, .null, .null, .null, .null, .null, .null, .null, .null, .null, .int 0, .int 0, .int 0])))) 643 (.inl (0, [.null, .int 0, .int 0, .int 0])))) 645 (zRf 4 6 (fun _ => none))) 0 (.inl (6, [.ref 1, .int 0, .ref 2, .ref 18, .int 0, .ref 19, .int 0, .ref 20, .ref 21, .ref 332, .ref 643, .ref 645]))) := hI
  refine lv_iconst (v := (nI 0)) hx hb d_Home_init_97 (by decide) ?_
  refine lv_istore_n (lv' := [(1, .int (nI 0)), (0, .ref (G.1 0))]) hx hb d_Home_init_98 rfl hl (by decide) rfl (fun ls hl => ?_)
  refine lv_iload_n hx hb d_Home_init_99 rfl (lv_at hl 0 rfl) ?_
  refine lv_iconst (v := (nI 4)) hx hb d_Home_init_100 (by decide) ?_
  refine lv_icmp_ge (tgt := 127) hx hb d_Home_init_101 (by decide) (fun hc => absurd hc (by decide)) (fun hc => ?_)
  refine lv_aload_n hx hb d_Home_init_104 rfl (lv_at hl 1 rfl) ?_
  refine b_getR X (a := 0) hI (zup_eq _ _ _) F_Home_25 (x := 19) rfl d_Home_init_105 ?_
  refine lv_iload_n hx hb d_Home_init_108 rfl (lv_at hl 0 rfl) ?_
  refine b_newO (C := "AllHome$Run") (T := nT4) (N := 6) (ci := 4) X hI hG ⟨by have := hz.1; omega, by omega⟩ rfl nI4 nY4 nP4 kw42 kw132 kw6 (fs := [.null, .null, .int 0, .int 0, .int 0, .int 0]) (by decide) rfl (Nat.le_of_ble_eq_true rfl) (Nat.le_of_ble_eq_true rfl) d_Home_init_109 (fun H hI => ?_)
  replace hI := b_sw (K2 := 647) (by omega) hI rfl
  refine lv_dup hx hb d_Home_init_112 rfl ?_
  refine lv_aload_n hx hb d_Home_init_113 rfl (lv_at hl 1 rfl) ?_
  refine b_getR X (a := 0) hI (zup_eq _ _ _) F_Home_16 (x := 2) rfl d_Home_init_114 ?_
  refine b_call (As := [.ref (G.1 2)]) (rest := [.ref (G.1 646), .int (nI 0), .ref (G.1 19)]) X hX hI hG ⟨by have := hz.1; omega, by omega⟩ hl.1 (ci_Run_init l G S0 hG 646 2 (zup (zup (zup (i_Acts_init 643 (zup (i_Orders_init 332 2 (zup (i_Orders_init 21 2 (zup (zup (zup (zup (i_Huts_init 2 (zup (zup h 1 (zI32 60 zZ0)) 2 (.inl (1, [.null, .null, .null, .int 0])))) 18 (zI32 10 zZ0)) 19 (zRf 3 4 (fun _ => none))) 20 (zI32 123 zZ0)) 21 (.inl (2, [.null, .null, .null, .null, .null, .null, .null, .null, .null, .null, .null, .int 0, .int 0, .int 0])))) 332 (.inl (2, [.null, .null, .null, .null, .null, .null, .null, .null, .null, .null, .null, .int 0, .int 0, .int 0])))) 643 (.inl (0, [.null, .int 0, .int 0, .int 0])))) 645 (zRf 4 6 (fun _ => none))) 646 (.inl (4, [.null, .null, .int 0, .int 0, .int 0, .int 0]))) 0 (.inl (6, [.ref 1, .int 0, .ref 2, .ref 18, .int 0, .ref 19, .int 0, .ref 20, .ref 21, .ref 332, .ref 643, .ref 645]))) (by rw [zup_ne (by omega), zup_eq])) J_Home_57 rfl (Nat.le_of_ble_eq_true rfl) ⟨(Nat.le_of_ble_eq_true rfl), (Nat.le_of_ble_eq_true rfl), (Nat.le_of_ble_eq_true rfl), (Nat.le_of_ble_eq_true rfl)⟩ rfl d_Home_init_117 (fun H locs hI => ?_)
  replace hI := i_Run_init_sw (a := 0) (K2 := 649) (by omega) hI rfl
  refine b_ast X hI (a := 19) (v := 646) (ci := 4) (t := 3) (N := 4) (i := 0) (f := (fun _ => none)) (by simp (disch := omega) only [zup_ne, zup_eq, i_Huts_init_ne, i_Orders_init_ne, i_Acts_init_ne, i_Run_init_ne, i_Shelf_init_ne]) (by rw [zup_ne (by omega)]; exact i_Run_init_self) (by omega) rfl rfl (by omega) (by omega) d_Home_init_120 (fun H locs hI => ?_)
  replace hI := b_sw (K2 := 649) (by omega) hI rfl
  refine lv_iinc (v := (nI 1)) (lv' := [(1, .int (nI 1)), (0, .ref (G.1 0))]) hx hb d_Home_init_121 hl (k := 0) rfl (by decide) (by decide) rfl (fun ls hl => ?_)
  refine lv_goto (tgt := 99) hx hb d_Home_init_124 (by decide) ?_
  refine lv_iload_n hx hb d_Home_init_99 rfl (lv_at hl 0 rfl) ?_
  refine lv_iconst (v := (nI 4)) hx hb d_Home_init_100 (by decide) ?_
  refine lv_icmp_ge (tgt := 127) hx hb d_Home_init_101 (by decide) (fun hc => absurd hc (by decide)) (fun hc => ?_)
  refine lv_aload_n hx hb d_Home_init_104 rfl (lv_at hl 1 rfl) ?_
  refine b_getR X (a := 0) hI (zup_eq _ _ _) F_Home_25 (x := 19) rfl d_Home_init_105 ?_
  refine lv_iload_n hx hb d_Home_init_108 rfl (lv_at hl 0 rfl) ?_
  refine b_newO (C := "AllHome$Run") (T := nT4) (N := 6) (ci := 4) X hI hG ⟨by have := hz.1; omega, by omega⟩ rfl nI4 nY4 nP4 kw42 kw132 kw6 (fs := [.null, .null, .int 0, .int 0, .int 0, .int 0]) (by decide) rfl (Nat.le_of_ble_eq_true rfl) (Nat.le_of_ble_eq_true rfl) d_Home_init_109 (fun H hI => ?_)
  replace hI := b_sw (K2 := 650) (by omega) hI rfl
  refine lv_dup hx hb d_Home_init_112 rfl ?_
  refine lv_aload_n hx hb d_Home_init_113 rfl (lv_at hl 1 rfl) ?_
  refine b_getR X (a := 0) hI (zup_eq _ _ _) F_Home_16 (x := 2) rfl d_Home_init_114 ?_
  refine b_call (As := [.ref (G.1 2)]) (rest := [.ref (G.1 649), .int (nI 1), .ref (G.1 19)]) X hX hI hG ⟨by have := hz.1; omega, by omega⟩ hl.1 (ci_Run_init l G S0 hG 649 2 (zup (zup (zup (i_Run_init 646 2 (zup (zup (i_Acts_init 643 (zup (i_Orders_init 332 2 (zup (i_Orders_init 21 2 (zup (zup (zup (zup (i_Huts_init 2 (zup (zup h 1 (zI32 60 zZ0)) 2 (.inl (1, [.null, .null, .null, .int 0])))) 18 (zI32 10 zZ0)) 19 (zRf 3 4 (fun _ => none))) 20 (zI32 123 zZ0)) 21 (.inl (2, [.null, .null, .null, .null, .null, .null, .null, .null, .null, .null, .null, .int 0, .int 0, .int 0])))) 332 (.inl (2, [.null, .null, .null, .null, .null, .null, .null, .null, .null, .null, .null, .int 0, .int 0, .int 0])))) 643 (.inl (0, [.null, .int 0, .int 0, .int 0])))) 645 (zRf 4 6 (fun _ => none))) 646 (.inl (4, [.null, .null, .int 0, .int 0, .int 0, .int 0])))) 19 (zRf 3 4 (fun k => if k = 0 then some 646 else (fun _ => none) k))) 649 (.inl (4, [.null, .null, .int 0, .int 0, .int 0, .int 0]))) 0 (.inl (6, [.ref 1, .int 0, .ref 2, .ref 18, .int 0, .ref 19, .int 0, .ref 20, .ref 21, .ref 332, .ref 643, .ref 645]))) (by rw [zup_ne (by omega), zup_eq])) J_Home_57 rfl (Nat.le_of_ble_eq_true rfl) ⟨(Nat.le_of_ble_eq_true rfl), (Nat.le_of_ble_eq_true rfl), (Nat.le_of_ble_eq_true rfl), (Nat.le_of_ble_eq_true rfl)⟩ rfl d_Home_init_117 (fun H locs hI => ?_)
  replace hI := i_Run_init_sw (a := 0) (K2 := 652) (by omega) hI rfl
  refine b_ast X hI (a := 19) (v := 649) (ci := 4) (t := 3) (N := 4) (i := 1) (f := (fun k => if k = 0 then some 646 else (fun _ => none) k)) (by simp (disch := omega) only [zup_ne, zup_eq, i_Huts_init_ne, i_Orders_init_ne, i_Acts_init_ne, i_Run_init_ne, i_Shelf_init_ne]) (by rw [zup_ne (by omega)]; exact i_Run_init_self) (by omega) rfl rfl (by omega) (by omega) d_Home_init_120 (fun H locs hI => ?_)
  replace hI := b_sw (K2 := 652) (by omega) hI rfl
  refine lv_iinc (v := (nI 2)) (lv' := [(1, .int (nI 2)), (0, .ref (G.1 0))]) hx hb d_Home_init_121 hl (k := 0) rfl (by decide) (by decide) rfl (fun ls hl => ?_)
  refine lv_goto (tgt := 99) hx hb d_Home_init_124 (by decide) ?_
  refine lv_iload_n hx hb d_Home_init_99 rfl (lv_at hl 0 rfl) ?_
  refine lv_iconst (v := (nI 4)) hx hb d_Home_init_100 (by decide) ?_
  refine lv_icmp_ge (tgt := 127) hx hb d_Home_init_101 (by decide) (fun hc => absurd hc (by decide)) (fun hc => ?_)
  refine lv_aload_n hx hb d_Home_init_104 rfl (lv_at hl 1 rfl) ?_
  refine b_getR X (a := 0) hI (zup_eq _ _ _) F_Home_25 (x := 19) rfl d_Home_init_105 ?_
  refine lv_iload_n hx hb d_Home_init_108 rfl (lv_at hl 0 rfl) ?_
  refine b_newO (C := "AllHome$Run") (T := nT4) (N := 6) (ci := 4) X hI hG ⟨by have := hz.1; omega, by omega⟩ rfl nI4 nY4 nP4 kw42 kw132 kw6 (fs := [.null, .null, .int 0, .int 0, .int 0, .int 0]) (by decide) rfl (Nat.le_of_ble_eq_true rfl) (Nat.le_of_ble_eq_true rfl) d_Home_init_109 (fun H hI => ?_)
  replace hI := b_sw (K2 := 653) (by omega) hI rfl
  refine lv_dup hx hb d_Home_init_112 rfl ?_
  refine lv_aload_n hx hb d_Home_init_113 rfl (lv_at hl 1 rfl) ?_
  refine b_getR X (a := 0) hI (zup_eq _ _ _) F_Home_16 (x := 2) rfl d_Home_init_114 ?_
  refine b_call (As := [.ref (G.1 2)]) (rest := [.ref (G.1 652), .int (nI 2), .ref (G.1 19)]) X hX hI hG ⟨by have := hz.1; omega, by omega⟩ hl.1 (ci_Run_init l G S0 hG 652 2 (zup (zup (zup (i_Run_init 649 2 (zup (zup (i_Run_init 646 2 (zup (zup (i_Acts_init 643 (zup (i_Orders_init 332 2 (zup (i_Orders_init 21 2 (zup (zup (zup (zup (i_Huts_init 2 (zup (zup h 1 (zI32 60 zZ0)) 2 (.inl (1, [.null, .null, .null, .int 0])))) 18 (zI32 10 zZ0)) 19 (zRf 3 4 (fun _ => none))) 20 (zI32 123 zZ0)) 21 (.inl (2, [.null, .null, .null, .null, .null, .null, .null, .null, .null, .null, .null, .int 0, .int 0, .int 0])))) 332 (.inl (2, [.null, .null, .null, .null, .null, .null, .null, .null, .null, .null, .null, .int 0, .int 0, .int 0])))) 643 (.inl (0, [.null, .int 0, .int 0, .int 0])))) 645 (zRf 4 6 (fun _ => none))) 646 (.inl (4, [.null, .null, .int 0, .int 0, .int 0, .int 0])))) 19 (zRf 3 4 (fun k => if k = 0 then some 646 else (fun _ => none) k))) 649 (.inl (4, [.null, .null, .int 0, .int 0, .int 0, .int 0])))) 19 (zRf 3 4 (fun k => if k = 1 then some 649 else (fun k => if k = 0 then some 646 else (fun _ => none) k) k))) 652 (.inl (4, [.null, .null, .int 0, .int 0, .int 0, .int 0]))) 0 (.inl (6, [.ref 1, .int 0, .ref 2, .ref 18, .int 0, .ref 19, .int 0, .ref 20, .ref 21, .ref 332, .ref 643, .ref 645]))) (by rw [zup_ne (by omega), zup_eq])) J_Home_57 rfl (Nat.le_of_ble_eq_true rfl) ⟨(Nat.le_of_ble_eq_true rfl), (Nat.le_of_ble_eq_true rfl), (Nat.le_of_ble_eq_true rfl), (Nat.le_of_ble_eq_true rfl)⟩ rfl d_Home_init_117 (fun H locs hI => ?_)
  replace hI := i_Run_init_sw (a := 0) (K2 := 655) (by omega) hI rfl
  refine b_ast X hI (a := 19) (v := 652) (ci := 4) (t := 3) (N := 4) (i := 2) (f := (fun k => if k = 1 then some 649 else (fun k => if k = 0 then some 646 else (fun _ => none) k) k)) (by simp (disch := omega) only [zup_ne, zup_eq, i_Huts_init_ne, i_Orders_init_ne, i_Acts_init_ne, i_Run_init_ne, i_Shelf_init_ne]) (by rw [zup_ne (by omega)]; exact i_Run_init_self) (by omega) rfl rfl (by omega) (by omega) d_Home_init_120 (fun H locs hI => ?_)
  replace hI := b_sw (K2 := 655) (by omega) hI rfl
  refine lv_iinc (v := (nI 3)) (lv' := [(1, .int (nI 3)), (0, .ref (G.1 0))]) hx hb d_Home_init_121 hl (k := 0) rfl (by decide) (by decide) rfl (fun ls hl => ?_)
  refine lv_goto (tgt := 99) hx hb d_Home_init_124 (by decide) ?_
  refine lv_iload_n hx hb d_Home_init_99 rfl (lv_at hl 0 rfl) ?_
  refine lv_iconst (v := (nI 4)) hx hb d_Home_init_100 (by decide) ?_
  refine lv_icmp_ge (tgt := 127) hx hb d_Home_init_101 (by decide) (fun hc => absurd hc (by decide)) (fun hc => ?_)
  refine lv_aload_n hx hb d_Home_init_104 rfl (lv_at hl 1 rfl) ?_
  refine b_getR X (a := 0) hI (zup_eq _ _ _) F_Home_25 (x := 19) rfl d_Home_init_105 ?_
  refine lv_iload_n hx hb d_Home_init_108 rfl (lv_at hl 0 rfl) ?_
  refine b_newO (C := "AllHome$Run") (T := nT4) (N := 6) (ci := 4) X hI hG ⟨by have := hz.1; omega, by omega⟩ rfl nI4 nY4 nP4 kw42 kw132 kw6 (fs := [.null, .null, .int 0, .int 0, .int 0, .int 0]) (by decide) rfl (Nat.le_of_ble_eq_true rfl) (Nat.le_of_ble_eq_true rfl) d_Home_init_109 (fun H hI => ?_)
  replace hI := b_sw (K2 := 656) (by omega) hI rfl
  refine lv_dup hx hb d_Home_init_112 rfl ?_
  refine lv_aload_n hx hb d_Home_init_113 rfl (lv_at hl 1 rfl) ?_
  refine b_getR X (a := 0) hI (zup_eq _ _ _) F_Home_16 (x := 2) rfl d_Home_init_114 ?_
  refine b_call (As := [.ref (G.1 2)]) (rest := [.ref (G.1 655), .int (nI 3), .ref (G.1 19)]) X hX hI hG ⟨by have := hz.1; omega, by omega⟩ hl.1 (ci_Run_init l G S0 hG 655 2 (zup (zup (zup (i_Run_init 652 2 (zup (zup (i_Run_init 649 2 (zup (zup (i_Run_init 646 2 (zup (zup (i_Acts_init 643 (zup (i_Orders_init 332 2 (zup (i_Orders_init 21 2 (zup (zup (zup (zup (i_Huts_init 2 (zup (zup h 1 (zI32 60 zZ0)) 2 (.inl (1, [.null, .null, .null, .int 0])))) 18 (zI32 10 zZ0)) 19 (zRf 3 4 (fun _ => none))) 20 (zI32 123 zZ0)) 21 (.inl (2, [.null, .null, .null, .null, .null, .null, .null, .null, .null, .null, .null, .int 0, .int 0, .int 0])))) 332 (.inl (2, [.null, .null, .null, .null, .null, .null, .null, .null, .null, .null, .null, .int 0, .int 0, .int 0])))) 643 (.inl (0, [.null, .int 0, .int 0, .int 0])))) 645 (zRf 4 6 (fun _ => none))) 646 (.inl (4, [.null, .null, .int 0, .int 0, .int 0, .int 0])))) 19 (zRf 3 4 (fun k => if k = 0 then some 646 else (fun _ => none) k))) 649 (.inl (4, [.null, .null, .int 0, .int 0, .int 0, .int 0])))) 19 (zRf 3 4 (fun k => if k = 1 then some 649 else (fun k => if k = 0 then some 646 else (fun _ => none) k) k))) 652 (.inl (4, [.null, .null, .int 0, .int 0, .int 0, .int 0])))) 19 (zRf 3 4 (fun k => if k = 2 then some 652 else (fun k => if k = 1 then some 649 else (fun k => if k = 0 then some 646 else (fun _ => none) k) k) k))) 655 (.inl (4, [.null, .null, .int 0, .int 0, .int 0, .int 0]))) 0 (.inl (6, [.ref 1, .int 0, .ref 2, .ref 18, .int 0, .ref 19, .int 0, .ref 20, .ref 21, .ref 332, .ref 643, .ref 645]))) (by rw [zup_ne (by omega), zup_eq])) J_Home_57 rfl (Nat.le_of_ble_eq_true rfl) ⟨(Nat.le_of_ble_eq_true rfl), (Nat.le_of_ble_eq_true rfl), (Nat.le_of_ble_eq_true rfl), (Nat.le_of_ble_eq_true rfl)⟩ rfl d_Home_init_117 (fun H locs hI => ?_)
  replace hI := i_Run_init_sw (a := 0) (K2 := 658) (by omega) hI rfl
  refine b_ast X hI (a := 19) (v := 655) (ci := 4) (t := 3) (N := 4) (i := 3) (f := (fun k => if k = 2 then some 652 else (fun k => if k = 1 then some 649 else (fun k => if k = 0 then some 646 else (fun _ => none) k) k) k)) (by simp (disch := omega) only [zup_ne, zup_eq, i_Huts_init_ne, i_Orders_init_ne, i_Acts_init_ne, i_Run_init_ne, i_Shelf_init_ne]) (by rw [zup_ne (by omega)]; exact i_Run_init_self) (by omega) rfl rfl (by omega) (by omega) d_Home_init_120 (fun H locs hI => ?_)
  replace hI := b_sw (K2 := 658) (by omega) hI rfl
  refine lv_iinc (v := (nI 4)) (lv' := [(1, .int (nI 4)), (0, .ref (G.1 0))]) hx hb d_Home_init_121 hl (k := 0) rfl (by decide) (by decide) rfl (fun ls hl => ?_)
  refine lv_goto (tgt := 99) hx hb d_Home_init_124 (by decide) ?_
  refine lv_iload_n hx hb d_Home_init_99 rfl (lv_at hl 0 rfl) ?_
  refine lv_iconst (v := (nI 4)) hx hb d_Home_init_100 (by decide) ?_
  refine lv_icmp_ge (tgt := 127) hx hb d_Home_init_101 (by decide) (fun hc => ?_) (fun hc => absurd hc (by decide))
  refine lv_iconst (v := (nI 0)) hx hb d_Home_init_127 (by decide) ?_
  refine lv_istore_n (lv' := [(1, .int (nI 0)), (0, .ref (G.1 0))]) hx hb d_Home_init_128 rfl hl (by decide) rfl (fun ls hl => ?_)
  refine lv_iload_n hx hb d_Home_init_129 rfl (lv_at hl 0 rfl) ?_
  refine lv_bipush (v := (nI 6)) hx hb d_Home_init_130 (by decide) ?_
  refine lv_icmp_ge (tgt := 154) hx hb d_Home_init_132 (by decide) (fun hc => absurd hc (by decide)) (fun hc => ?_)
  refine lv_aload_n hx hb d_Home_init_135 rfl (lv_at hl 1 rfl) ?_
  refine b_getR X (a := 0) hI (zup_eq _ _ _) F_Home_53 (x := 645) rfl d_Home_init_136 ?_
  refine lv_iload_n hx hb d_Home_init_139 rfl (lv_at hl 0 rfl) ?_
  refine b_newO (C := "AllHome$Shelf") (T := nT5) (N := 4) (ci := 5) X hI hG ⟨by have := hz.1; omega, by omega⟩ rfl nI5 nY5 nP5 kw130 kw158 kw7 (fs := [.null, .int 0, .int 0, .int 0]) (by decide) rfl (Nat.le_of_ble_eq_true rfl) (Nat.le_of_ble_eq_true rfl) d_Home_init_140 (fun H hI => ?_)
  replace hI := b_sw (K2 := 659) (by omega) hI rfl
  refine lv_dup hx hb d_Home_init_143 rfl ?_
  refine b_callN (As := []) (rest := [.ref (G.1 658), .int (nI 0), .ref (G.1 645)]) X hX hI hG ⟨by have := hz.1; omega, by omega⟩ hl.1 (ci_Shelf_init l G S0 hG 658 (zup (zup (zup (i_Run_init 655 2 (zup (zup (i_Run_init 652 2 (zup (zup (i_Run_init 649 2 (zup (zup (i_Run_init 646 2 (zup (zup (i_Acts_init 643 (zup (i_Orders_init 332 2 (zup (i_Orders_init 21 2 (zup (zup (zup (zup (i_Huts_init 2 (zup (zup h 1 (zI32 60 zZ0)) 2 (.inl (1, [.null, .null, .null, .int 0])))) 18 (zI32 10 zZ0)) 19 (zRf 3 4 (fun _ => none))) 20 (zI32 123 zZ0)) 21 (.inl (2, [.null, .null, .null, .null, .null, .null, .null, .null, .null, .null, .null, .int 0, .int 0, .int 0])))) 332 (.inl (2, [.null, .null, .null, .null, .null, .null, .null, .null, .null, .null, .null, .int 0, .int 0, .int 0])))) 643 (.inl (0, [.null, .int 0, .int 0, .int 0])))) 645 (zRf 4 6 (fun _ => none))) 646 (.inl (4, [.null, .null, .int 0, .int 0, .int 0, .int 0])))) 19 (zRf 3 4 (fun k => if k = 0 then some 646 else (fun _ => none) k))) 649 (.inl (4, [.null, .null, .int 0, .int 0, .int 0, .int 0])))) 19 (zRf 3 4 (fun k => if k = 1 then some 649 else (fun k => if k = 0 then some 646 else (fun _ => none) k) k))) 652 (.inl (4, [.null, .null, .int 0, .int 0, .int 0, .int 0])))) 19 (zRf 3 4 (fun k => if k = 2 then some 652 else (fun k => if k = 1 then some 649 else (fun k => if k = 0 then some 646 else (fun _ => none) k) k) k))) 655 (.inl (4, [.null, .null, .int 0, .int 0, .int 0, .int 0])))) 19 (zRf 3 4 (fun k => if k = 3 then some 655 else (fun k => if k = 2 then some 652 else (fun k => if k = 1 then some 649 else (fun k => if k = 0 then some 646 else (fun _ => none) k) k) k) k))) 658 (.inl (5, [.null, .int 0, .int 0, .int 0]))) 0 (.inl (6, [.ref 1, .int 0, .ref 2, .ref 18, .int 0, .ref 19, .int 0, .ref 20, .ref 21, .ref 332, .ref 643, .ref 645]))) (by rw [zup_ne (by omega), zup_eq])) J_Home_58 rfl (Nat.le_of_ble_eq_true rfl) ⟨(Nat.le_of_ble_eq_true rfl), (Nat.le_of_ble_eq_true rfl), (Nat.le_of_ble_eq_true rfl), (Nat.le_of_ble_eq_true rfl)⟩ rfl d_Home_init_144 (fun H locs hI => ?_)
  replace hI := i_Shelf_init_sw (a := 0) (K2 := 660) (by omega) hI rfl
  refine b_ast X hI (a := 645) (v := 658) (ci := 5) (t := 4) (N := 6) (i := 0) (f := (fun _ => none)) (by simp (disch := omega) only [zup_ne, zup_eq, i_Huts_init_ne, i_Orders_init_ne, i_Acts_init_ne, i_Run_init_ne, i_Shelf_init_ne]) (by rw [zup_ne (by omega)]; exact i_Shelf_init_self) (by omega) rfl rfl (by omega) (by omega) d_Home_init_147 (fun H locs hI => ?_)
  replace hI := b_sw (K2 := 660) (by omega) hI rfl
  refine lv_iinc (v := (nI 1)) (lv' := [(1, .int (nI 1)), (0, .ref (G.1 0))]) hx hb d_Home_init_148 hl (k := 0) rfl (by decide) (by decide) rfl (fun ls hl => ?_)
  refine lv_goto (tgt := 129) hx hb d_Home_init_151 (by decide) ?_
  refine lv_iload_n hx hb d_Home_init_129 rfl (lv_at hl 0 rfl) ?_
  refine lv_bipush (v := (nI 6)) hx hb d_Home_init_130 (by decide) ?_
  refine lv_icmp_ge (tgt := 154) hx hb d_Home_init_132 (by decide) (fun hc => absurd hc (by decide)) (fun hc => ?_)
  refine lv_aload_n hx hb d_Home_init_135 rfl (lv_at hl 1 rfl) ?_
  refine b_getR X (a := 0) hI (zup_eq _ _ _) F_Home_53 (x := 645) rfl d_Home_init_136 ?_
  refine lv_iload_n hx hb d_Home_init_139 rfl (lv_at hl 0 rfl) ?_
  refine b_newO (C := "AllHome$Shelf") (T := nT5) (N := 4) (ci := 5) X hI hG ⟨by have := hz.1; omega, by omega⟩ rfl nI5 nY5 nP5 kw130 kw158 kw7 (fs := [.null, .int 0, .int 0, .int 0]) (by decide) rfl (Nat.le_of_ble_eq_true rfl) (Nat.le_of_ble_eq_true rfl) d_Home_init_140 (fun H hI => ?_)
  replace hI := b_sw (K2 := 661) (by omega) hI rfl
  refine lv_dup hx hb d_Home_init_143 rfl ?_
  refine b_callN (As := []) (rest := [.ref (G.1 660), .int (nI 1), .ref (G.1 645)]) X hX hI hG ⟨by have := hz.1; omega, by omega⟩ hl.1 (ci_Shelf_init l G S0 hG 660 (zup (zup (zup (i_Shelf_init 658 (zup (zup (i_Run_init 655 2 (zup (zup (i_Run_init 652 2 (zup (zup (i_Run_init 649 2 (zup (zup (i_Run_init 646 2 (zup (zup (i_Acts_init 643 (zup (i_Orders_init 332 2 (zup (i_Orders_init 21 2 (zup (zup (zup (zup (i_Huts_init 2 (zup (zup h 1 (zI32 60 zZ0)) 2 (.inl (1, [.null, .null, .null, .int 0])))) 18 (zI32 10 zZ0)) 19 (zRf 3 4 (fun _ => none))) 20 (zI32 123 zZ0)) 21 (.inl (2, [.null, .null, .null, .null, .null, .null, .null, .null, .null, .null, .null, .int 0, .int 0, .int 0])))) 332 (.inl (2, [.null, .null, .null, .null, .null, .null, .null, .null, .null, .null, .null, .int 0, .int 0, .int 0])))) 643 (.inl (0, [.null, .int 0, .int 0, .int 0])))) 645 (zRf 4 6 (fun _ => none))) 646 (.inl (4, [.null, .null, .int 0, .int 0, .int 0, .int 0])))) 19 (zRf 3 4 (fun k => if k = 0 then some 646 else (fun _ => none) k))) 649 (.inl (4, [.null, .null, .int 0, .int 0, .int 0, .int 0])))) 19 (zRf 3 4 (fun k => if k = 1 then some 649 else (fun k => if k = 0 then some 646 else (fun _ => none) k) k))) 652 (.inl (4, [.null, .null, .int 0, .int 0, .int 0, .int 0])))) 19 (zRf 3 4 (fun k => if k = 2 then some 652 else (fun k => if k = 1 then some 649 else (fun k => if k = 0 then some 646 else (fun _ => none) k) k) k))) 655 (.inl (4, [.null, .null, .int 0, .int 0, .int 0, .int 0])))) 19 (zRf 3 4 (fun k => if k = 3 then some 655 else (fun k => if k = 2 then some 652 else (fun k => if k = 1 then some 649 else (fun k => if k = 0 then some 646 else (fun _ => none) k) k) k) k))) 658 (.inl (5, [.null, .int 0, .int 0, .int 0])))) 645 (zRf 4 6 (fun k => if k = 0 then some 658 else (fun _ => none) k))) 660 (.inl (5, [.null, .int 0, .int 0, .int 0]))) 0 (.inl (6, [.ref 1, .int 0, .ref 2, .ref 18, .int 0, .ref 19, .int 0, .ref 20, .ref 21, .ref 332, .ref 643, .ref 645]))) (by rw [zup_ne (by omega), zup_eq])) J_Home_58 rfl (Nat.le_of_ble_eq_true rfl) ⟨(Nat.le_of_ble_eq_true rfl), (Nat.le_of_ble_eq_true rfl), (Nat.le_of_ble_eq_true rfl), (Nat.le_of_ble_eq_true rfl)⟩ rfl d_Home_init_144 (fun H locs hI => ?_)
  replace hI := i_Shelf_init_sw (a := 0) (K2 := 662) (by omega) hI rfl
  refine b_ast X hI (a := 645) (v := 660) (ci := 5) (t := 4) (N := 6) (i := 1) (f := (fun k => if k = 0 then some 658 else (fun _ => none) k)) (by simp (disch := omega) only [zup_ne, zup_eq, i_Huts_init_ne, i_Orders_init_ne, i_Acts_init_ne, i_Run_init_ne, i_Shelf_init_ne]) (by rw [zup_ne (by omega)]; exact i_Shelf_init_self) (by omega) rfl rfl (by omega) (by omega) d_Home_init_147 (fun H locs hI => ?_)
  replace hI := b_sw (K2 := 662) (by omega) hI rfl
  refine lv_iinc (v := (nI 2)) (lv' := [(1, .int (nI 2)), (0, .ref (G.1 0))]) hx hb d_Home_init_148 hl (k := 0) rfl (by decide) (by decide) rfl (fun ls hl => ?_)
  refine lv_goto (tgt := 129) hx hb d_Home_init_151 (by decide) ?_
  refine lv_iload_n hx hb d_Home_init_129 rfl (lv_at hl 0 rfl) ?_
  refine lv_bipush (v := (nI 6)) hx hb d_Home_init_130 (by decide) ?_
  refine lv_icmp_ge (tgt := 154) hx hb d_Home_init_132 (by decide) (fun hc => absurd hc (by decide)) (fun hc => ?_)
  refine lv_aload_n hx hb d_Home_init_135 rfl (lv_at hl 1 rfl) ?_
  refine b_getR X (a := 0) hI (zup_eq _ _ _) F_Home_53 (x := 645) rfl d_Home_init_136 ?_
  refine lv_iload_n hx hb d_Home_init_139 rfl (lv_at hl 0 rfl) ?_
  refine b_newO (C := "AllHome$Shelf") (T := nT5) (N := 4) (ci := 5) X hI hG ⟨by have := hz.1; omega, by omega⟩ rfl nI5 nY5 nP5 kw130 kw158 kw7 (fs := [.null, .int 0, .int 0, .int 0]) (by decide) rfl (Nat.le_of_ble_eq_true rfl) (Nat.le_of_ble_eq_true rfl) d_Home_init_140 (fun H hI => ?_)
  replace hI := b_sw (K2 := 663) (by omega) hI rfl
  refine lv_dup hx hb d_Home_init_143 rfl ?_
  refine b_callN (As := []) (rest := [.ref (G.1 662), .int (nI 2), .ref (G.1 645)]) X hX hI hG ⟨by have := hz.1; omega, by omega⟩ hl.1 (ci_Shelf_init l G S0 hG 662 (zup (zup (zup (i_Shelf_init 660 (zup (zup (i_Shelf_init 658 (zup (zup (i_Run_init 655 2 (zup (zup (i_Run_init 652 2 (zup (zup (i_Run_init 649 2 (zup (zup (i_Run_init 646 2 (zup (zup (i_Acts_init 643 (zup (i_Orders_init 332 2 (zup (i_Orders_init 21 2 (zup (zup (zup (zup (i_Huts_init 2 (zup (zup h 1 (zI32 60 zZ0)) 2 (.inl (1, [.null, .null, .null, .int 0])))) 18 (zI32 10 zZ0)) 19 (zRf 3 4 (fun _ => none))) 20 (zI32 123 zZ0)) 21 (.inl (2, [.null, .null, .null, .null, .null, .null, .null, .null, .null, .null, .null, .int 0, .int 0, .int 0])))) 332 (.inl (2, [.null, .null, .null, .null, .null, .null, .null, .null, .null, .null, .null, .int 0, .int 0, .int 0])))) 643 (.inl (0, [.null, .int 0, .int 0, .int 0])))) 645 (zRf 4 6 (fun _ => none))) 646 (.inl (4, [.null, .null, .int 0, .int 0, .int 0, .int 0])))) 19 (zRf 3 4 (fun k => if k = 0 then some 646 else (fun _ => none) k))) 649 (.inl (4, [.null, .null, .int 0, .int 0, .int 0, .int 0])))) 19 (zRf 3 4 (fun k => if k = 1 then some 649 else (fun k => if k = 0 then some 646 else (fun _ => none) k) k))) 652 (.inl (4, [.null, .null, .int 0, .int 0, .int 0, .int 0])))) 19 (zRf 3 4 (fun k => if k = 2 then some 652 else (fun k => if k = 1 then some 649 else (fun k => if k = 0 then some 646 else (fun _ => none) k) k) k))) 655 (.inl (4, [.null, .null, .int 0, .int 0, .int 0, .int 0])))) 19 (zRf 3 4 (fun k => if k = 3 then some 655 else (fun k => if k = 2 then some 652 else (fun k => if k = 1 then some 649 else (fun k => if k = 0 then some 646 else (fun _ => none) k) k) k) k))) 658 (.inl (5, [.null, .int 0, .int 0, .int 0])))) 645 (zRf 4 6 (fun k => if k = 0 then some 658 else (fun _ => none) k))) 660 (.inl (5, [.null, .int 0, .int 0, .int 0])))) 645 (zRf 4 6 (fun k => if k = 1 then some 660 else (fun k => if k = 0 then some 658 else (fun _ => none) k) k))) 662 (.inl (5, [.null, .int 0, .int 0, .int 0]))) 0 (.inl (6, [.ref 1, .int 0, .ref 2, .ref 18, .int 0, .ref 19, .int 0, .ref 20, .ref 21, .ref 332, .ref 643, .ref 645]))) (by rw [zup_ne (by omega), zup_eq])) J_Home_58 rfl (Nat.le_of_ble_eq_true rfl) ⟨(Nat.le_of_ble_eq_true rfl), (Nat.le_of_ble_eq_true rfl), (Nat.le_of_ble_eq_true rfl), (Nat.le_of_ble_eq_true rfl)⟩ rfl d_Home_init_144 (fun H locs hI => ?_)
  replace hI := i_Shelf_init_sw (a := 0) (K2 := 664) (by omega) hI rfl
  refine b_ast X hI (a := 645) (v := 662) (ci := 5) (t := 4) (N := 6) (i := 2) (f := (fun k => if k = 1 then some 660 else (fun k => if k = 0 then some 658 else (fun _ => none) k) k)) (by simp (disch := omega) only [zup_ne, zup_eq, i_Huts_init_ne, i_Orders_init_ne, i_Acts_init_ne, i_Run_init_ne, i_Shelf_init_ne]) (by rw [zup_ne (by omega)]; exact i_Shelf_init_self) (by omega) rfl rfl (by omega) (by omega) d_Home_init_147 (fun H locs hI => ?_)
  replace hI := b_sw (K2 := 664) (by omega) hI rfl
  refine lv_iinc (v := (nI 3)) (lv' := [(1, .int (nI 3)), (0, .ref (G.1 0))]) hx hb d_Home_init_148 hl (k := 0) rfl (by decide) (by decide) rfl (fun ls hl => ?_)
  refine lv_goto (tgt := 129) hx hb d_Home_init_151 (by decide) ?_
  refine lv_iload_n hx hb d_Home_init_129 rfl (lv_at hl 0 rfl) ?_
  refine lv_bipush (v := (nI 6)) hx hb d_Home_init_130 (by decide) ?_
  refine lv_icmp_ge (tgt := 154) hx hb d_Home_init_132 (by decide) (fun hc => absurd hc (by decide)) (fun hc => ?_)
  refine lv_aload_n hx hb d_Home_init_135 rfl (lv_at hl 1 rfl) ?_
  refine b_getR X (a := 0) hI (zup_eq _ _ _) F_Home_53 (x := 645) rfl d_Home_init_136 ?_
  refine lv_iload_n hx hb d_Home_init_139 rfl (lv_at hl 0 rfl) ?_
  refine b_newO (C := "AllHome$Shelf") (T := nT5) (N := 4) (ci := 5) X hI hG ⟨by have := hz.1; omega, by omega⟩ rfl nI5 nY5 nP5 kw130 kw158 kw7 (fs := [.null, .int 0, .int 0, .int 0]) (by decide) rfl (Nat.le_of_ble_eq_true rfl) (Nat.le_of_ble_eq_true rfl) d_Home_init_140 (fun H hI => ?_)
  replace hI := b_sw (K2 := 665) (by omega) hI rfl
  refine lv_dup hx hb d_Home_init_143 rfl ?_
  refine b_callN (As := []) (rest := [.ref (G.1 664), .int (nI 3), .ref (G.1 645)]) X hX hI hG ⟨by have := hz.1; omega, by omega⟩ hl.1 (ci_Shelf_init l G S0 hG 664 (zup (zup (zup (i_Shelf_init 662 (zup (zup (i_Shelf_init 660 (zup (zup (i_Shelf_init 658 (zup (zup (i_Run_init 655 2 (zup (zup (i_Run_init 652 2 (zup (zup (i_Run_init 649 2 (zup (zup (i_Run_init 646 2 (zup (zup (i_Acts_init 643 (zup (i_Orders_init 332 2 (zup (i_Orders_init 21 2 (zup (zup (zup (zup (i_Huts_init 2 (zup (zup h 1 (zI32 60 zZ0)) 2 (.inl (1, [.null, .null, .null, .int 0])))) 18 (zI32 10 zZ0)) 19 (zRf 3 4 (fun _ => none))) 20 (zI32 123 zZ0)) 21 (.inl (2, [.null, .null, .null, .null, .null, .null, .null, .null, .null, .null, .null, .int 0, .int 0, .int 0])))) 332 (.inl (2, [.null, .null, .null, .null, .null, .null, .null, .null, .null, .null, .null, .int 0, .int 0, .int 0])))) 643 (.inl (0, [.null, .int 0, .int 0, .int 0])))) 645 (zRf 4 6 (fun _ => none))) 646 (.inl (4, [.null, .null, .int 0, .int 0, .int 0, .int 0])))) 19 (zRf 3 4 (fun k => if k = 0 then some 646 else (fun _ => none) k))) 649 (.inl (4, [.null, .null, .int 0, .int 0, .int 0, .int 0])))) 19 (zRf 3 4 (fun k => if k = 1 then some 649 else (fun k => if k = 0 then some 646 else (fun _ => none) k) k))) 652 (.inl (4, [.null, .null, .int 0, .int 0, .int 0, .int 0])))) 19 (zRf 3 4 (fun k => if k = 2 then some 652 else (fun k => if k = 1 then some 649 else (fun k => if k = 0 then some 646 else (fun _ => none) k) k) k))) 655 (.inl (4, [.null, .null, .int 0, .int 0, .int 0, .int 0])))) 19 (zRf 3 4 (fun k => if k = 3 then some 655 else (fun k => if k = 2 then some 652 else (fun k => if k = 1 then some 649 else (fun k => if k = 0 then some 646 else (fun _ => none) k) k) k) k))) 658 (.inl (5, [.null, .int 0, .int 0, .int 0])))) 645 (zRf 4 6 (fun k => if k = 0 then some 658 else (fun _ => none) k))) 660 (.inl (5, [.null, .int 0, .int 0, .int 0])))) 645 (zRf 4 6 (fun k => if k = 1 then some 660 else (fun k => if k = 0 then some 658 else (fun _ => none) k) k))) 662 (.inl (5, [.null, .int 0, .int 0, .int 0])))) 645 (zRf 4 6 (fun k => if k = 2 then some 662 else (fun k => if k = 1 then some 660 else (fun k => if k = 0 then some 658 else (fun _ => none) k) k) k))) 664 (.inl (5, [.null, .int 0, .int 0, .int 0]))) 0 (.inl (6, [.ref 1, .int 0, .ref 2, .ref 18, .int 0, .ref 19, .int 0, .ref 20, .ref 21, .ref 332, .ref 643, .ref 645]))) (by rw [zup_ne (by omega), zup_eq])) J_Home_58 rfl (Nat.le_of_ble_eq_true rfl) ⟨(Nat.le_of_ble_eq_true rfl), (Nat.le_of_ble_eq_true rfl), (Nat.le_of_ble_eq_true rfl), (Nat.le_of_ble_eq_true rfl)⟩ rfl d_Home_init_144 (fun H locs hI => ?_)
  replace hI := i_Shelf_init_sw (a := 0) (K2 := 666) (by omega) hI rfl
  refine b_ast X hI (a := 645) (v := 664) (ci := 5) (t := 4) (N := 6) (i := 3) (f := (fun k => if k = 2 then some 662 else (fun k => if k = 1 then some 660 else (fun k => if k = 0 then some 658 else (fun _ => none) k) k) k)) (by simp (disch := omega) only [zup_ne, zup_eq, i_Huts_init_ne, i_Orders_init_ne, i_Acts_init_ne, i_Run_init_ne, i_Shelf_init_ne]) (by rw [zup_ne (by omega)]; exact i_Shelf_init_self) (by omega) rfl rfl (by omega) (by omega) d_Home_init_147 (fun H locs hI => ?_)
  replace hI := b_sw (K2 := 666) (by omega) hI rfl
  refine lv_iinc (v := (nI 4)) (lv' := [(1, .int (nI 4)), (0, .ref (G.1 0))]) hx hb d_Home_init_148 hl (k := 0) rfl (by decide) (by decide) rfl (fun ls hl => ?_)
  refine lv_goto (tgt := 129) hx hb d_Home_init_151 (by decide) ?_
  refine lv_iload_n hx hb d_Home_init_129 rfl (lv_at hl 0 rfl) ?_
  refine lv_bipush (v := (nI 6)) hx hb d_Home_init_130 (by decide) ?_
  refine lv_icmp_ge (tgt := 154) hx hb d_Home_init_132 (by decide) (fun hc => absurd hc (by decide)) (fun hc => ?_)
  refine lv_aload_n hx hb d_Home_init_135 rfl (lv_at hl 1 rfl) ?_
  refine b_getR X (a := 0) hI (zup_eq _ _ _) F_Home_53 (x := 645) rfl d_Home_init_136 ?_
  refine lv_iload_n hx hb d_Home_init_139 rfl (lv_at hl 0 rfl) ?_
  refine b_newO (C := "AllHome$Shelf") (T := nT5) (N := 4) (ci := 5) X hI hG ⟨by have := hz.1; omega, by omega⟩ rfl nI5 nY5 nP5 kw130 kw158 kw7 (fs := [.null, .int 0, .int 0, .int 0]) (by decide) rfl (Nat.le_of_ble_eq_true rfl) (Nat.le_of_ble_eq_true rfl) d_Home_init_140 (fun H hI => ?_)
  replace hI := b_sw (K2 := 667) (by omega) hI rfl
  refine lv_dup hx hb d_Home_init_143 rfl ?_
  refine b_callN (As := []) (rest := [.ref (G.1 666), .int (nI 4), .ref (G.1 645)]) X hX hI hG ⟨by have := hz.1; omega, by omega⟩ hl.1 (ci_Shelf_init l G S0 hG 666 (zup (zup (zup (i_Shelf_init 664 (zup (zup (i_Shelf_init 662 (zup (zup (i_Shelf_init 660 (zup (zup (i_Shelf_init 658 (zup (zup (i_Run_init 655 2 (zup (zup (i_Run_init 652 2 (zup (zup (i_Run_init 649 2 (zup (zup (i_Run_init 646 2 (zup (zup (i_Acts_init 643 (zup (i_Orders_init 332 2 (zup (i_Orders_init 21 2 (zup (zup (zup (zup (i_Huts_init 2 (zup (zup h 1 (zI32 60 zZ0)) 2 (.inl (1, [.null, .null, .null, .int 0])))) 18 (zI32 10 zZ0)) 19 (zRf 3 4 (fun _ => none))) 20 (zI32 123 zZ0)) 21 (.inl (2, [.null, .null, .null, .null, .null, .null, .null, .null, .null, .null, .null, .int 0, .int 0, .int 0])))) 332 (.inl (2, [.null, .null, .null, .null, .null, .null, .null, .null, .null, .null, .null, .int 0, .int 0, .int 0])))) 643 (.inl (0, [.null, .int 0, .int 0, .int 0])))) 645 (zRf 4 6 (fun _ => none))) 646 (.inl (4, [.null, .null, .int 0, .int 0, .int 0, .int 0])))) 19 (zRf 3 4 (fun k => if k = 0 then some 646 else (fun _ => none) k))) 649 (.inl (4, [.null, .null, .int 0, .int 0, .int 0, .int 0])))) 19 (zRf 3 4 (fun k => if k = 1 then some 649 else (fun k => if k = 0 then some 646 else (fun _ => none) k) k))) 652 (.inl (4, [.null, .null, .int 0, .int 0, .int 0, .int 0])))) 19 (zRf 3 4 (fun k => if k = 2 then some 652 else (fun k => if k = 1 then some 649 else (fun k => if k = 0 then some 646 else (fun _ => none) k) k) k))) 655 (.inl (4, [.null, .null, .int 0, .int 0, .int 0, .int 0])))) 19 (zRf 3 4 (fun k => if k = 3 then some 655 else (fun k => if k = 2 then some 652 else (fun k => if k = 1 then some 649 else (fun k => if k = 0 then some 646 else (fun _ => none) k) k) k) k))) 658 (.inl (5, [.null, .int 0, .int 0, .int 0])))) 645 (zRf 4 6 (fun k => if k = 0 then some 658 else (fun _ => none) k))) 660 (.inl (5, [.null, .int 0, .int 0, .int 0])))) 645 (zRf 4 6 (fun k => if k = 1 then some 660 else (fun k => if k = 0 then some 658 else (fun _ => none) k) k))) 662 (.inl (5, [.null, .int 0, .int 0, .int 0])))) 645 (zRf 4 6 (fun k => if k = 2 then some 662 else (fun k => if k = 1 then some 660 else (fun k => if k = 0 then some 658 else (fun _ => none) k) k) k))) 664 (.inl (5, [.null, .int 0, .int 0, .int 0])))) 645 (zRf 4 6 (fun k => if k = 3 then some 664 else (fun k => if k = 2 then some 662 else (fun k => if k = 1 then some 660 else (fun k => if k = 0 then some 658 else (fun _ => none) k) k) k) k))) 666 (.inl (5, [.null, .int 0, .int 0, .int 0]))) 0 (.inl (6, [.ref 1, .int 0, .ref 2, .ref 18, .int 0, .ref 19, .int 0, .ref 20, .ref 21, .ref 332, .ref 643, .ref 645]))) (by rw [zup_ne (by omega), zup_eq])) J_Home_58 rfl (Nat.le_of_ble_eq_true rfl) ⟨(Nat.le_of_ble_eq_true rfl), (Nat.le_of_ble_eq_true rfl), (Nat.le_of_ble_eq_true rfl), (Nat.le_of_ble_eq_true rfl)⟩ rfl d_Home_init_144 (fun H locs hI => ?_)
  replace hI := i_Shelf_init_sw (a := 0) (K2 := 668) (by omega) hI rfl
  refine b_ast X hI (a := 645) (v := 666) (ci := 5) (t := 4) (N := 6) (i := 4) (f := (fun k => if k = 3 then some 664 else (fun k => if k = 2 then some 662 else (fun k => if k = 1 then some 660 else (fun k => if k = 0 then some 658 else (fun _ => none) k) k) k) k)) (by simp (disch := omega) only [zup_ne, zup_eq, i_Huts_init_ne, i_Orders_init_ne, i_Acts_init_ne, i_Run_init_ne, i_Shelf_init_ne]) (by rw [zup_ne (by omega)]; exact i_Shelf_init_self) (by omega) rfl rfl (by omega) (by omega) d_Home_init_147 (fun H locs hI => ?_)
  replace hI := b_sw (K2 := 668) (by omega) hI rfl
  refine lv_iinc (v := (nI 5)) (lv' := [(1, .int (nI 5)), (0, .ref (G.1 0))]) hx hb d_Home_init_148 hl (k := 0) rfl (by decide) (by decide) rfl (fun ls hl => ?_)
  refine lv_goto (tgt := 129) hx hb d_Home_init_151 (by decide) ?_
  refine lv_iload_n hx hb d_Home_init_129 rfl (lv_at hl 0 rfl) ?_
  refine lv_bipush (v := (nI 6)) hx hb d_Home_init_130 (by decide) ?_
  refine lv_icmp_ge (tgt := 154) hx hb d_Home_init_132 (by decide) (fun hc => absurd hc (by decide)) (fun hc => ?_)
  refine lv_aload_n hx hb d_Home_init_135 rfl (lv_at hl 1 rfl) ?_
  refine b_getR X (a := 0) hI (zup_eq _ _ _) F_Home_53 (x := 645) rfl d_Home_init_136 ?_
  refine lv_iload_n hx hb d_Home_init_139 rfl (lv_at hl 0 rfl) ?_
  refine b_newO (C := "AllHome$Shelf") (T := nT5) (N := 4) (ci := 5) X hI hG ⟨by have := hz.1; omega, by omega⟩ rfl nI5 nY5 nP5 kw130 kw158 kw7 (fs := [.null, .int 0, .int 0, .int 0]) (by decide) rfl (Nat.le_of_ble_eq_true rfl) (Nat.le_of_ble_eq_true rfl) d_Home_init_140 (fun H hI => ?_)
  replace hI := b_sw (K2 := 669) (by omega) hI rfl
  refine lv_dup hx hb d_Home_init_143 rfl ?_
  refine b_callN (As := []) (rest := [.ref (G.1 668), .int (nI 5), .ref (G.1 645)]) X hX hI hG ⟨by have := hz.1; omega, by omega⟩ hl.1 (ci_Shelf_init l G S0 hG 668 (zup (zup (zup (i_Shelf_init 666 (zup (zup (i_Shelf_init 664 (zup (zup (i_Shelf_init 662 (zup (zup (i_Shelf_init 660 (zup (zup (i_Shelf_init 658 (zup (zup (i_Run_init 655 2 (zup (zup (i_Run_init 652 2 (zup (zup (i_Run_init 649 2 (zup (zup (i_Run_init 646 2 (zup (zup (i_Acts_init 643 (zup (i_Orders_init 332 2 (zup (i_Orders_init 21 2 (zup (zup (zup (zup (i_Huts_init 2 (zup (zup h 1 (zI32 60 zZ0)) 2 (.inl (1, [.null, .null, .null, .int 0])))) 18 (zI32 10 zZ0)) 19 (zRf 3 4 (fun _ => none))) 20 (zI32 123 zZ0)) 21 (.inl (2, [.null, .null, .null, .null, .null, .null, .null, .null, .null, .null, .null, .int 0, .int 0, .int 0])))) 332 (.inl (2, [.null, .null, .null, .null, .null, .null, .null, .null, .null, .null, .null, .int 0, .int 0, .int 0])))) 643 (.inl (0, [.null, .int 0, .int 0, .int 0])))) 645 (zRf 4 6 (fun _ => none))) 646 (.inl (4, [.null, .null, .int 0, .int 0, .int 0, .int 0])))) 19 (zRf 3 4 (fun k => if k = 0 then some 646 else (fun _ => none) k))) 649 (.inl (4, [.null, .null, .int 0, .int 0, .int 0, .int 0])))) 19 (zRf 3 4 (fun k => if k = 1 then some 649 else (fun k => if k = 0 then some 646 else (fun _ => none) k) k))) 652 (.inl (4, [.null, .null, .int 0, .int 0, .int 0, .int 0])))) 19 (zRf 3 4 (fun k => if k = 2 then some 652 else (fun k => if k = 1 then some 649 else (fun k => if k = 0 then some 646 else (fun _ => none) k) k) k))) 655 (.inl (4, [.null, .null, .int 0, .int 0, .int 0, .int 0])))) 19 (zRf 3 4 (fun k => if k = 3 then some 655 else (fun k => if k = 2 then some 652 else (fun k => if k = 1 then some 649 else (fun k => if k = 0 then some 646 else (fun _ => none) k) k) k) k))) 658 (.inl (5, [.null, .int 0, .int 0, .int 0])))) 645 (zRf 4 6 (fun k => if k = 0 then some 658 else (fun _ => none) k))) 660 (.inl (5, [.null, .int 0, .int 0, .int 0])))) 645 (zRf 4 6 (fun k => if k = 1 then some 660 else (fun k => if k = 0 then some 658 else (fun _ => none) k) k))) 662 (.inl (5, [.null, .int 0, .int 0, .int 0])))) 645 (zRf 4 6 (fun k => if k = 2 then some 662 else (fun k => if k = 1 then some 660 else (fun k => if k = 0 then some 658 else (fun _ => none) k) k) k))) 664 (.inl (5, [.null, .int 0, .int 0, .int 0])))) 645 (zRf 4 6 (fun k => if k = 3 then some 664 else (fun k => if k = 2 then some 662 else (fun k => if k = 1 then some 660 else (fun k => if k = 0 then some 658 else (fun _ => none) k) k) k) k))) 666 (.inl (5, [.null, .int 0, .int 0, .int 0])))) 645 (zRf 4 6 (fun k => if k = 4 then some 666 else (fun k => if k = 3 then some 664 else (fun k => if k = 2 then some 662 else (fun k => if k = 1 then some 660 else (fun k => if k = 0 then some 658 else (fun _ => none) k) k) k) k) k))) 668 (.inl (5, [.null, .int 0, .int 0, .int 0]))) 0 (.inl (6, [.ref 1, .int 0, .ref 2, .ref 18, .int 0, .ref 19, .int 0, .ref 20, .ref 21, .ref 332, .ref 643, .ref 645]))) (by rw [zup_ne (by omega), zup_eq])) J_Home_58 rfl (Nat.le_of_ble_eq_true rfl) ⟨(Nat.le_of_ble_eq_true rfl), (Nat.le_of_ble_eq_true rfl), (Nat.le_of_ble_eq_true rfl), (Nat.le_of_ble_eq_true rfl)⟩ rfl d_Home_init_144 (fun H locs hI => ?_)
  replace hI := i_Shelf_init_sw (a := 0) (K2 := 670) (by omega) hI rfl
  refine b_ast X hI (a := 645) (v := 668) (ci := 5) (t := 4) (N := 6) (i := 5) (f := (fun k => if k = 4 then some 666 else (fun k => if k = 3 then some 664 else (fun k => if k = 2 then some 662 else (fun k => if k = 1 then some 660 else (fun k => if k = 0 then some 658 else (fun _ => none) k) k) k) k) k)) (by simp (disch := omega) only [zup_ne, zup_eq, i_Huts_init_ne, i_Orders_init_ne, i_Acts_init_ne, i_Run_init_ne, i_Shelf_init_ne]) (by rw [zup_ne (by omega)]; exact i_Shelf_init_self) (by omega) rfl rfl (by omega) (by omega) d_Home_init_147 (fun H locs hI => ?_)
  replace hI := b_sw (K2 := 670) (by omega) hI rfl
  refine lv_iinc (v := (nI 6)) (lv' := [(1, .int (nI 6)), (0, .ref (G.1 0))]) hx hb d_Home_init_148 hl (k := 0) rfl (by decide) (by decide) rfl (fun ls hl => ?_)
  refine lv_goto (tgt := 129) hx hb d_Home_init_151 (by decide) ?_
  refine lv_iload_n hx hb d_Home_init_129 rfl (lv_at hl 0 rfl) ?_
  refine lv_bipush (v := (nI 6)) hx hb d_Home_init_130 (by decide) ?_
  refine lv_icmp_ge (tgt := 154) hx hb d_Home_init_132 (by decide) (fun hc => ?_) (fun hc => absurd hc (by decide))
  have hI : zI G 670 s (bA S0) H locs (i_Home_init h) := hI
  exact b_vret X hI hG ⟨by have := hz.1; omega, by omega⟩ d_Home_init_154
