/-! THE CONSTRUCTOR OF AllHomeModel -/
theorem d_Model_init_0 : decode prog_9_method_1_code 0 = .ok (.aload_n 0, 1) := by decide +kernel
theorem d_Model_init_1 : decode prog_9_method_1_code 1 = .ok (.invokespecial 3, 3) := by decide +kernel
theorem d_Model_init_4 : decode prog_9_method_1_code 4 = .ok (.aload_n 0, 1) := by decide +kernel
theorem d_Model_init_5 : decode prog_9_method_1_code 5 = .ok (.bipush 60, 2) := by decide +kernel
theorem d_Model_init_7 : decode prog_9_method_1_code 7 = .ok (.newarray .int, 2) := by decide +kernel
theorem d_Model_init_9 : decode prog_9_method_1_code 9 = .ok (.putfield 9, 3) := by decide +kernel
theorem d_Model_init_12 : decode prog_9_method_1_code 12 = .ok (.aload_n 0, 1) := by decide +kernel
theorem d_Model_init_13 : decode prog_9_method_1_code 13 = .ok (.sipush 360, 3) := by decide +kernel
theorem d_Model_init_16 : decode prog_9_method_1_code 16 = .ok (.newarray .int, 2) := by decide +kernel
theorem d_Model_init_18 : decode prog_9_method_1_code 18 = .ok (.putfield 13, 3) := by decide +kernel
theorem d_Model_init_21 : decode prog_9_method_1_code 21 = .ok (.aload_n 0, 1) := by decide +kernel
theorem d_Model_init_22 : decode prog_9_method_1_code 22 = .ok (.bipush 6, 2) := by decide +kernel
theorem d_Model_init_24 : decode prog_9_method_1_code 24 = .ok (.newarray .int, 2) := by decide +kernel
theorem d_Model_init_26 : decode prog_9_method_1_code 26 = .ok (.putfield 16, 3) := by decide +kernel
theorem d_Model_init_29 : decode prog_9_method_1_code 29 = .ok (.aload_n 0, 1) := by decide +kernel
theorem d_Model_init_30 : decode prog_9_method_1_code 30 = .ok (.bipush 10, 2) := by decide +kernel
theorem d_Model_init_32 : decode prog_9_method_1_code 32 = .ok (.newarray .int, 2) := by decide +kernel
theorem d_Model_init_34 : decode prog_9_method_1_code 34 = .ok (.putfield 19, 3) := by decide +kernel
theorem d_Model_init_37 : decode prog_9_method_1_code 37 = .ok (.aload_n 0, 1) := by decide +kernel
theorem d_Model_init_38 : decode prog_9_method_1_code 38 = .ok (.bipush 91, 2) := by decide +kernel
theorem d_Model_init_40 : decode prog_9_method_1_code 40 = .ok (.newarray .int, 2) := by decide +kernel
theorem d_Model_init_42 : decode prog_9_method_1_code 42 = .ok (.putfield 22, 3) := by decide +kernel
theorem d_Model_init_45 : decode prog_9_method_1_code 45 = .ok (.aload_n 0, 1) := by decide +kernel
theorem d_Model_init_46 : decode prog_9_method_1_code 46 = .ok (.sipush 364, 3) := by decide +kernel
theorem d_Model_init_49 : decode prog_9_method_1_code 49 = .ok (.newarray .int, 2) := by decide +kernel
theorem d_Model_init_51 : decode prog_9_method_1_code 51 = .ok (.putfield 25, 3) := by decide +kernel
theorem d_Model_init_54 : decode prog_9_method_1_code 54 = .ok (.aload_n 0, 1) := by decide +kernel
theorem d_Model_init_55 : decode prog_9_method_1_code 55 = .ok (.iconst 4, 1) := by decide +kernel
theorem d_Model_init_56 : decode prog_9_method_1_code 56 = .ok (.newarray .int, 2) := by decide +kernel
theorem d_Model_init_58 : decode prog_9_method_1_code 58 = .ok (.putfield 28, 3) := by decide +kernel
theorem d_Model_init_61 : decode prog_9_method_1_code 61 = .ok (.aload_n 0, 1) := by decide +kernel
theorem d_Model_init_62 : decode prog_9_method_1_code 62 = .ok (.iconst 4, 1) := by decide +kernel
theorem d_Model_init_63 : decode prog_9_method_1_code 63 = .ok (.newarray .int, 2) := by decide +kernel
theorem d_Model_init_65 : decode prog_9_method_1_code 65 = .ok (.putfield 31, 3) := by decide +kernel
theorem d_Model_init_68 : decode prog_9_method_1_code 68 = .ok (.aload_n 0, 1) := by decide +kernel
theorem d_Model_init_69 : decode prog_9_method_1_code 69 = .ok (.iconst 4, 1) := by decide +kernel
theorem d_Model_init_70 : decode prog_9_method_1_code 70 = .ok (.newarray .int, 2) := by decide +kernel
theorem d_Model_init_72 : decode prog_9_method_1_code 72 = .ok (.putfield 34, 3) := by decide +kernel
theorem d_Model_init_75 : decode prog_9_method_1_code 75 = .ok (.aload_n 0, 1) := by decide +kernel
theorem d_Model_init_76 : decode prog_9_method_1_code 76 = .ok (.iconst 4, 1) := by decide +kernel
theorem d_Model_init_77 : decode prog_9_method_1_code 77 = .ok (.newarray .int, 2) := by decide +kernel
theorem d_Model_init_79 : decode prog_9_method_1_code 79 = .ok (.putfield 37, 3) := by decide +kernel
theorem d_Model_init_82 : decode prog_9_method_1_code 82 = .ok (.aload_n 0, 1) := by decide +kernel
theorem d_Model_init_83 : decode prog_9_method_1_code 83 = .ok (.iconst 4, 1) := by decide +kernel
theorem d_Model_init_84 : decode prog_9_method_1_code 84 = .ok (.newarray .int, 2) := by decide +kernel
theorem d_Model_init_86 : decode prog_9_method_1_code 86 = .ok (.putfield 40, 3) := by decide +kernel
theorem d_Model_init_89 : decode prog_9_method_1_code 89 = .ok (.aload_n 0, 1) := by decide +kernel
theorem d_Model_init_90 : decode prog_9_method_1_code 90 = .ok (.iconst 4, 1) := by decide +kernel
theorem d_Model_init_91 : decode prog_9_method_1_code 91 = .ok (.newarray .int, 2) := by decide +kernel
theorem d_Model_init_93 : decode prog_9_method_1_code 93 = .ok (.putfield 43, 3) := by decide +kernel
theorem d_Model_init_96 : decode prog_9_method_1_code 96 = .ok (.aload_n 0, 1) := by decide +kernel
theorem d_Model_init_97 : decode prog_9_method_1_code 97 = .ok (.sipush 13741, 3) := by decide +kernel
theorem d_Model_init_100 : decode prog_9_method_1_code 100 = .ok (.newarray .int, 2) := by decide +kernel
theorem d_Model_init_102 : decode prog_9_method_1_code 102 = .ok (.putfield 46, 3) := by decide +kernel
theorem d_Model_init_105 : decode prog_9_method_1_code 105 = .ok (.aload_n 0, 1) := by decide +kernel
theorem d_Model_init_106 : decode prog_9_method_1_code 106 = .ok (.sipush 151, 3) := by decide +kernel
theorem d_Model_init_109 : decode prog_9_method_1_code 109 = .ok (.newarray .int, 2) := by decide +kernel
theorem d_Model_init_111 : decode prog_9_method_1_code 111 = .ok (.putfield 49, 3) := by decide +kernel
theorem d_Model_init_114 : decode prog_9_method_1_code 114 = .ok (.aload_n 0, 1) := by decide +kernel
theorem d_Model_init_115 : decode prog_9_method_1_code 115 = .ok (.sipush 151, 3) := by decide +kernel
theorem d_Model_init_118 : decode prog_9_method_1_code 118 = .ok (.newarray .int, 2) := by decide +kernel
theorem d_Model_init_120 : decode prog_9_method_1_code 120 = .ok (.putfield 52, 3) := by decide +kernel
theorem d_Model_init_123 : decode prog_9_method_1_code 123 = .ok (.aload_n 0, 1) := by decide +kernel
theorem d_Model_init_124 : decode prog_9_method_1_code 124 = .ok (.sipush 151, 3) := by decide +kernel
theorem d_Model_init_127 : decode prog_9_method_1_code 127 = .ok (.newarray .boolean, 2) := by decide +kernel
theorem d_Model_init_129 : decode prog_9_method_1_code 129 = .ok (.putfield 55, 3) := by decide +kernel
theorem d_Model_init_132 : decode prog_9_method_1_code 132 = .ok (.aload_n 0, 1) := by decide +kernel
theorem d_Model_init_133 : decode prog_9_method_1_code 133 = .ok (.sipush 22801, 3) := by decide +kernel
theorem d_Model_init_136 : decode prog_9_method_1_code 136 = .ok (.newarray .boolean, 2) := by decide +kernel
theorem d_Model_init_138 : decode prog_9_method_1_code 138 = .ok (.putfield 59, 3) := by decide +kernel
theorem d_Model_init_141 : decode prog_9_method_1_code 141 = .ok (.aload_n 0, 1) := by decide +kernel
theorem d_Model_init_142 : decode prog_9_method_1_code 142 = .ok (.bipush 24, 2) := by decide +kernel
theorem d_Model_init_144 : decode prog_9_method_1_code 144 = .ok (.newarray .int, 2) := by decide +kernel
theorem d_Model_init_146 : decode prog_9_method_1_code 146 = .ok (.putfield 62, 3) := by decide +kernel
theorem d_Model_init_149 : decode prog_9_method_1_code 149 = .ok (.aload_n 0, 1) := by decide +kernel
theorem d_Model_init_150 : decode prog_9_method_1_code 150 = .ok (.bipush 6, 2) := by decide +kernel
theorem d_Model_init_152 : decode prog_9_method_1_code 152 = .ok (.newarray .int, 2) := by decide +kernel
theorem d_Model_init_154 : decode prog_9_method_1_code 154 = .ok (.putfield 65, 3) := by decide +kernel
theorem d_Model_init_157 : decode prog_9_method_1_code 157 = .ok (.aload_n 0, 1) := by decide +kernel
theorem d_Model_init_158 : decode prog_9_method_1_code 158 = .ok (.bipush 6, 2) := by decide +kernel
theorem d_Model_init_160 : decode prog_9_method_1_code 160 = .ok (.newarray .int, 2) := by decide +kernel
theorem d_Model_init_162 : decode prog_9_method_1_code 162 = .ok (.putfield 68, 3) := by decide +kernel
theorem d_Model_init_165 : decode prog_9_method_1_code 165 = .ok (.aload_n 0, 1) := by decide +kernel
theorem d_Model_init_166 : decode prog_9_method_1_code 166 = .ok (.sipush 360, 3) := by decide +kernel
theorem d_Model_init_169 : decode prog_9_method_1_code 169 = .ok (.newarray .long, 2) := by decide +kernel
theorem d_Model_init_171 : decode prog_9_method_1_code 171 = .ok (.putfield 71, 3) := by decide +kernel
theorem d_Model_init_174 : decode prog_9_method_1_code 174 = .ok (.aload_n 0, 1) := by decide +kernel
theorem d_Model_init_175 : decode prog_9_method_1_code 175 = .ok (.bipush 60, 2) := by decide +kernel
theorem d_Model_init_177 : decode prog_9_method_1_code 177 = .ok (.newarray .long, 2) := by decide +kernel
theorem d_Model_init_179 : decode prog_9_method_1_code 179 = .ok (.putfield 75, 3) := by decide +kernel
theorem d_Model_init_182 : decode prog_9_method_1_code 182 = .ok (.iconst 0, 1) := by decide +kernel
theorem d_Model_init_183 : decode prog_9_method_1_code 183 = .ok (.istore_n 1, 1) := by decide +kernel
theorem d_Model_init_184 : decode prog_9_method_1_code 184 = .ok (.iload_n 1, 1) := by decide +kernel
theorem d_Model_init_185 : decode prog_9_method_1_code 185 = .ok (.bipush 6, 2) := by decide +kernel
theorem d_Model_init_187 : decode prog_9_method_1_code 187 = .ok (.if_icmp .ge 16, 3) := by decide +kernel
theorem d_Model_init_190 : decode prog_9_method_1_code 190 = .ok (.aload_n 0, 1) := by decide +kernel
theorem d_Model_init_191 : decode prog_9_method_1_code 191 = .ok (.getfield 65, 3) := by decide +kernel
theorem d_Model_init_194 : decode prog_9_method_1_code 194 = .ok (.iload_n 1, 1) := by decide +kernel
theorem d_Model_init_195 : decode prog_9_method_1_code 195 = .ok (.iconst (-1), 1) := by decide +kernel
theorem d_Model_init_196 : decode prog_9_method_1_code 196 = .ok (.iastore, 1) := by decide +kernel
theorem d_Model_init_197 : decode prog_9_method_1_code 197 = .ok (.iinc 1 1, 3) := by decide +kernel
theorem d_Model_init_200 : decode prog_9_method_1_code 200 = .ok (.goto (-16), 3) := by decide +kernel
theorem d_Model_init_203 : decode prog_9_method_1_code 203 = .ok (.return_, 1) := by decide +kernel
def i_Model_init (h : zH) : zH := zup (zup (zup (zup (zup (zup (zup (zup (zup (zup (zup (zup (zup (zup (zup (zup (zup (zup (zup (zup (zup (zup (zup (zup (zup (zup (zup (zup (zup h 671 (zI32 60 zZ0)) 672 (zI32 360 zZ0)) 673 (zI32 6 zZ0)) 674 (zI32 10 zZ0)) 675 (zI32 91 zZ0)) 676 (zI32 364 zZ0)) 677 (zI32 4 zZ0)) 678 (zI32 4 zZ0)) 679 (zI32 4 zZ0)) 680 (zI32 4 zZ0)) 681 (zI32 4 zZ0)) 682 (zI32 4 zZ0)) 683 (zI32 13741 zZ0)) 684 (zI32 151 zZ0)) 685 (zI32 151 zZ0)) 686 (zI1 151 zZ0)) 687 (zI1 22801 zZ0)) 688 (zI32 24 zZ0)) 689 (zI32 6 zZ0)) 690 (zI32 6 zZ0)) 691 (zI64 360 zJ0)) 692 (zI64 60 zJ0)) 689 (zI32 6 (upd zZ0 0 (-1 : Int32)))) 689 (zI32 6 (upd (upd zZ0 0 (-1 : Int32)) 1 (-1 : Int32)))) 689 (zI32 6 (upd (upd (upd zZ0 0 (-1 : Int32)) 1 (-1 : Int32)) 2 (-1 : Int32)))) 689 (zI32 6 (upd (upd (upd (upd zZ0 0 (-1 : Int32)) 1 (-1 : Int32)) 2 (-1 : Int32)) 3 (-1 : Int32)))) 689 (zI32 6 (upd (upd (upd (upd (upd zZ0 0 (-1 : Int32)) 1 (-1 : Int32)) 2 (-1 : Int32)) 3 (-1 : Int32)) 4 (-1 : Int32)))) 689 (zI32 6 (upd (upd (upd (upd (upd (upd zZ0 0 (-1 : Int32)) 1 (-1 : Int32)) 2 (-1 : Int32)) 3 (-1 : Int32)) 4 (-1 : Int32)) 5 (-1 : Int32)))) 670 (.inl (7, [.ref 671, .int 0, .ref 672, .ref 673, .int 0, .ref 674, .int 0, .ref 675, .int 0, .int 0, .int 0, .int 0, .ref 676, .ref 677, .ref 678, .ref 679, .ref 680, .ref 681, .ref 682, .int 0, .ref 683, .ref 684, .ref 685, .ref 686, .ref 687, .int 0, .ref 688, .int 0, .int 0, .ref 689, .ref 690, .ref 691, .ref 692]))
set_option maxHeartbeats 4000000 in
set_option maxRecDepth 100000 in
theorem ci_Model_init (l : Launch) (G : zG) (S0 : Nat) (hG : bG1 G S0) (h : zH) (hr : h 670 = (.inl (7, [.null, .int 0, .null, .null, .int 0, .null, .int 0, .null, .int 0, .int 0, .int 0, .int 0, .null, .null, .null, .null, .null, .null, .null, .int 0, .null, .null, .null, .null, .null, .int 0, .null, .int 0, .int 0, .null, .null, .null, .null]))) : bMt l G S0 671 y_Model_init prog_9_method_1_code 2 1 22 38366 [.ref (G.1 670)] h 693 (i_Model_init h) := by
  refine b_met (by decide +kernel) rfl (Nat.le_of_ble_eq_true rfl) hG fun p e s m below meth c ls X hX hin hz hI hl => ?_
  obtain ⟨hx, hb, hml, hown, hts, -, hlocks, hK, hST, hNs⟩ := id X
  have hl : lv_has ls 2 [(0, .ref (G.1 670))] := hl
  have hI : zI G 671 s (bA S0) s.heap [] (zup h 670 (.inl (7, [.null, .int 0, .null, .null, .int 0, .null, .int 0, .null, .int 0, .int 0, .int 0, .int 0, .null, .null, .null, .null, .null, .null, .null, .int 0, .null, .null, .null, .null, .null, .int 0, .null, .int 0, .int 0, .null, .null, .null, .null]))) := by rw [zup_self hr]; exact hI
  refine lv_aload_n hx hb d_Model_init_0 rfl (lv_at hl 0 rfl) ?_
  refine W.objInit hx hb hown (hts _ kw672) (hts _ kw18) (hts _ kw19) rfl (by rw [hml]; exact hl.1) rfl d_Model_init_1 (Nat.le_of_ble_eq_true rfl) (Nat.le_of_ble_eq_true rfl) ?_
  refine W.eq (g2 := F0 m 4 ls []) rfl ?_
  refine lv_aload_n hx hb d_Model_init_4 rfl (lv_at hl 0 rfl) ?_
  refine lv_bipush (v := (nI 60)) hx hb d_Model_init_5 (by decide) ?_
  refine b_newI X hI hG ⟨by have := hz.1; omega, by omega⟩ kw41 (N := 60) (by omega) (Nat.le_of_ble_eq_true rfl) (Nat.le_of_ble_eq_true rfl) d_Model_init_7 (fun H hI => ?_)
  replace hI := b_sw (K2 := 672) (by omega) hI rfl
  refine b_putF X hin hI P_Model_9 (v := .ref 671) (by simp) rfl rfl d_Model_init_9 (fun H locs hI => ?_)
  have hI : zI G 672 s (bA S0) H locs (zup (zup h 671 (zI32 60 zZ0)) 670 (.inl (7, [.ref 671, .int 0, .null, .null, .int 0, .null, .int 0, .null, .int 0, .int 0, .int 0, .int 0, .null, .null, .null, .null, .null, .null, .null, .int 0, .null, .null, .null, .null, .null, .int 0, .null, .int 0, .int 0, .null, .null, .null, .null]))) := hI
  refine lv_aload_n hx hb d_Model_init_12 rfl (lv_at hl 0 rfl) ?_
  refine lv_sipush (v := (nI 360)) hx hb d_Model_init_13 (by decide) ?_
  refine b_newI X hI hG ⟨by have := hz.1; omega, by omega⟩ kw41 (N := 360) (by omega) (Nat.le_of_ble_eq_true rfl) (Nat.le_of_ble_eq_true rfl) d_Model_init_16 (fun H hI => ?_)
  replace hI := b_sw (K2 := 673) (by omega) hI rfl
  refine b_putF X hin hI P_Model_13 (v := .ref 672) (by simp) rfl rfl d_Model_init_18 (fun H locs hI => ?_)
  have hI : zI G 673 s (bA S0) H locs (zup (zup (zup h 671 (zI32 60 zZ0)) 672 (zI32 360 zZ0)) 670 (.inl (7, [.ref 671, .int 0, .ref 672, .null, .int 0, .null, .int 0, .null, .int 0, .int 0, .int 0, .int 0, .null, .null, .null, .null, .null, .null, .null, .int 0, .null, .null, .null, .null, .null, .int 0, .null, .int 0, .int 0, .null, .null, .null, .null]))) := hI
  refine lv_aload_n hx hb d_Model_init_21 rfl (lv_at hl 0 rfl) ?_
  refine lv_bipush (v := (nI 6)) hx hb d_Model_init_22 (by decide) ?_
  refine b_newI X hI hG ⟨by have := hz.1; omega, by omega⟩ kw41 (N := 6) (by omega) (Nat.le_of_ble_eq_true rfl) (Nat.le_of_ble_eq_true rfl) d_Model_init_24 (fun H hI => ?_)
  replace hI := b_sw (K2 := 674) (by omega) hI rfl
  refine b_putF X hin hI P_Model_16 (v := .ref 673) (by simp) rfl rfl d_Model_init_26 (fun H locs hI => ?_)
  have hI : zI G 674 s (bA S0) H locs (zup (zup (zup (zup h 671 (zI32 60 zZ0)) 672 (zI32 360 zZ0)) 673 (zI32 6 zZ0)) 670 (.inl (7, [.ref 671, .int 0, .ref 672, .ref 673, .int 0, .null, .int 0, .null, .int 0, .int 0, .int 0, .int 0, .null, .null, .null, .null, .null, .null, .null, .int 0, .null, .null, .null, .null, .null, .int 0, .null, .int 0, .int 0, .null, .null, .null, .null]))) := hI
  refine lv_aload_n hx hb d_Model_init_29 rfl (lv_at hl 0 rfl) ?_
  refine lv_bipush (v := (nI 10)) hx hb d_Model_init_30 (by decide) ?_
  refine b_newI X hI hG ⟨by have := hz.1; omega, by omega⟩ kw41 (N := 10) (by omega) (Nat.le_of_ble_eq_true rfl) (Nat.le_of_ble_eq_true rfl) d_Model_init_32 (fun H hI => ?_)
  replace hI := b_sw (K2 := 675) (by omega) hI rfl
  refine b_putF X hin hI P_Model_19 (v := .ref 674) (by simp) rfl rfl d_Model_init_34 (fun H locs hI => ?_)
  have hI : zI G 675 s (bA S0) H locs (zup (zup (zup (zup (zup h 671 (zI32 60 zZ0)) 672 (zI32 360 zZ0)) 673 (zI32 6 zZ0)) 674 (zI32 10 zZ0)) 670 (.inl (7, [.ref 671, .int 0, .ref 672, .ref 673, .int 0, .ref 674, .int 0, .null, .int 0, .int 0, .int 0, .int 0, .null, .null, .null, .null, .null, .null, .null, .int 0, .null, .null, .null, .null, .null, .int 0, .null, .int 0, .int 0, .null, .null, .null, .null]))) := hI
  refine lv_aload_n hx hb d_Model_init_37 rfl (lv_at hl 0 rfl) ?_
  refine lv_bipush (v := (nI 91)) hx hb d_Model_init_38 (by decide) ?_
  refine b_newI X hI hG ⟨by have := hz.1; omega, by omega⟩ kw41 (N := 91) (by omega) (Nat.le_of_ble_eq_true rfl) (Nat.le_of_ble_eq_true rfl) d_Model_init_40 (fun H hI => ?_)
  replace hI := b_sw (K2 := 676) (by omega) hI rfl
  refine b_putF X hin hI P_Model_22 (v := .ref 675) (by simp) rfl rfl d_Model_init_42 (fun H locs hI => ?_)
  have hI : zI G 676 s (bA S0) H locs (zup (zup (zup (zup (zup (zup h 671 (zI32 60 zZ0)) 672 (zI32 360 zZ0)) 673 (zI32 6 zZ0)) 674 (zI32 10 zZ0)) 675 (zI32 91 zZ0)) 670 (.inl (7, [.ref 671, .int 0, .ref 672, .ref 673, .int 0, .ref 674, .int 0, .ref 675, .int 0, .int 0, .int 0, .int 0, .null, .null, .null, .null, .null, .null, .null, .int 0, .null, .null, .null, .null, .null, .int 0, .null, .int 0, .int 0, .null, .null, .null, .null]))) := hI
  refine lv_aload_n hx hb d_Model_init_45 rfl (lv_at hl 0 rfl) ?_
  refine lv_sipush (v := (nI 364)) hx hb d_Model_init_46 (by decide) ?_
  refine b_newI X hI hG ⟨by have := hz.1; omega, by omega⟩ kw41 (N := 364) (by omega) (Nat.le_of_ble_eq_true rfl) (Nat.le_of_ble_eq_true rfl) d_Model_init_49 (fun H hI => ?_)
  replace hI := b_sw (K2 := 677) (by omega) hI rfl
  refine b_putF X hin hI P_Model_25 (v := .ref 676) (by simp) rfl rfl d_Model_init_51 (fun H locs hI => ?_)
  have hI : zI G 677 s (bA S0) H locs (zup (zup (zup (zup (zup (zup (zup h 671 (zI32 60 zZ0)) 672 (zI32 360 zZ0)) 673 (zI32 6 zZ0)) 674 (zI32 10 zZ0)) 675 (zI32 91 zZ0)) 676 (zI32 364 zZ0)) 670 (.inl (7, [.ref 671, .int 0, .ref 672, .ref 673, .int 0, .ref 674, .int 0, .ref 675, .int 0, .int 0, .int 0, .int 0, .ref 676, .null, .null, .null, .null, .null, .null, .int 0, .null, .null, .null, .null, .null, .int 0, .null, .int 0, .int 0, .null, .null, .null, .null]))) := hI
  refine lv_aload_n hx hb d_Model_init_54 rfl (lv_at hl 0 rfl) ?_
  refine lv_iconst (v := (nI 4)) hx hb d_Model_init_55 (by decide) ?_
  refine b_newI X hI hG ⟨by have := hz.1; omega, by omega⟩ kw41 (N := 4) (by omega) (Nat.le_of_ble_eq_true rfl) (Nat.le_of_ble_eq_true rfl) d_Model_init_56 (fun H hI => ?_)
  replace hI := b_sw (K2 := 678) (by omega) hI rfl
  refine b_putF X hin hI P_Model_28 (v := .ref 677) (by simp) rfl rfl d_Model_init_58 (fun H locs hI => ?_)
  have hI : zI G 678 s (bA S0) H locs (zup (zup (zup (zup (zup (zup (zup (zup h 671 (zI32 60 zZ0)) 672 (zI32 360 zZ0)) 673 (zI32 6 zZ0)) 674 (zI32 10 zZ0)) 675 (zI32 91 zZ0)) 676 (zI32 364 zZ0)) 677 (zI32 4 zZ0)) 670 (.inl (7, [.ref 671, .int 0, .ref 672, .ref 673, .int 0, .ref 674, .int 0, .ref 675, .int 0, .int 0, .int 0, .int 0, .ref 676, .ref 677, .null, .null, .null, .null, .null, .int 0, .null, .null, .null, .null, .null, .int 0, .null, .int 0, .int 0, .null, .null, .null, .null]))) := hI
  refine lv_aload_n hx hb d_Model_init_61 rfl (lv_at hl 0 rfl) ?_
  refine lv_iconst (v := (nI 4)) hx hb d_Model_init_62 (by decide) ?_
  refine b_newI X hI hG ⟨by have := hz.1; omega, by omega⟩ kw41 (N := 4) (by omega) (Nat.le_of_ble_eq_true rfl) (Nat.le_of_ble_eq_true rfl) d_Model_init_63 (fun H hI => ?_)
  replace hI := b_sw (K2 := 679) (by omega) hI rfl
  refine b_putF X hin hI P_Model_31 (v := .ref 678) (by simp) rfl rfl d_Model_init_65 (fun H locs hI => ?_)
  have hI : zI G 679 s (bA S0) H locs (zup (zup (zup (zup (zup (zup (zup (zup (zup h 671 (zI32 60 zZ0)) 672 (zI32 360 zZ0)) 673 (zI32 6 zZ0)) 674 (zI32 10 zZ0)) 675 (zI32 91 zZ0)) 676 (zI32 364 zZ0)) 677 (zI32 4 zZ0)) 678 (zI32 4 zZ0)) 670 (.inl (7, [.ref 671, .int 0, .ref 672, .ref 673, .int 0, .ref 674, .int 0, .ref 675, .int 0, .int 0, .int 0, .int 0, .ref 676, .ref 677, .ref 678, .null, .null, .null, .null, .int 0, .null, .null, .null, .null, .null, .int 0, .null, .int 0, .int 0, .null, .null, .null, .null]))) := hI
  refine lv_aload_n hx hb d_Model_init_68 rfl (lv_at hl 0 rfl) ?_
  refine lv_iconst (v := (nI 4)) hx hb d_Model_init_69 (by decide) ?_
  refine b_newI X hI hG ⟨by have := hz.1; omega, by omega⟩ kw41 (N := 4) (by omega) (Nat.le_of_ble_eq_true rfl) (Nat.le_of_ble_eq_true rfl) d_Model_init_70 (fun H hI => ?_)
  replace hI := b_sw (K2 := 680) (by omega) hI rfl
  refine b_putF X hin hI P_Model_34 (v := .ref 679) (by simp) rfl rfl d_Model_init_72 (fun H locs hI => ?_)
  have hI : zI G 680 s (bA S0) H locs (zup (zup (zup (zup (zup (zup (zup (zup (zup (zup h 671 (zI32 60 zZ0)) 672 (zI32 360 zZ0)) 673 (zI32 6 zZ0)) 674 (zI32 10 zZ0)) 675 (zI32 91 zZ0)) 676 (zI32 364 zZ0)) 677 (zI32 4 zZ0)) 678 (zI32 4 zZ0)) 679 (zI32 4 zZ0)) 670 (.inl (7, [.ref 671, .int 0, .ref 672, .ref 673, .int 0, .ref 674, .int 0, .ref 675, .int 0, .int 0, .int 0, .int 0, .ref 676, .ref 677, .ref 678, .ref 679, .null, .null, .null, .int 0, .null, .null, .null, .null, .null, .int 0, .null, .int 0, .int 0, .null, .null, .null, .null]))) := hI
  refine lv_aload_n hx hb d_Model_init_75 rfl (lv_at hl 0 rfl) ?_
  refine lv_iconst (v := (nI 4)) hx hb d_Model_init_76 (by decide) ?_
  refine b_newI X hI hG ⟨by have := hz.1; omega, by omega⟩ kw41 (N := 4) (by omega) (Nat.le_of_ble_eq_true rfl) (Nat.le_of_ble_eq_true rfl) d_Model_init_77 (fun H hI => ?_)
  replace hI := b_sw (K2 := 681) (by omega) hI rfl
  refine b_putF X hin hI P_Model_37 (v := .ref 680) (by simp) rfl rfl d_Model_init_79 (fun H locs hI => ?_)
  have hI : zI G 681 s (bA S0) H locs (zup (zup (zup (zup (zup (zup (zup (zup (zup (zup (zup h 671 (zI32 60 zZ0)) 672 (zI32 360 zZ0)) 673 (zI32 6 zZ0)) 674 (zI32 10 zZ0)) 675 (zI32 91 zZ0)) 676 (zI32 364 zZ0)) 677 (zI32 4 zZ0)) 678 (zI32 4 zZ0)) 679 (zI32 4 zZ0)) 680 (zI32 4 zZ0)) 670 (.inl (7, [.ref 671, .int 0, .ref 672, .ref 673, .int 0, .ref 674, .int 0, .ref 675, .int 0, .int 0, .int 0, .int 0, .ref 676, .ref 677, .ref 678, .ref 679, .ref 680, .null, .null, .int 0, .null, .null, .null, .null, .null, .int 0, .null, .int 0, .int 0, .null, .null, .null, .null]))) := hI
  refine lv_aload_n hx hb d_Model_init_82 rfl (lv_at hl 0 rfl) ?_
  refine lv_iconst (v := (nI 4)) hx hb d_Model_init_83 (by decide) ?_
  refine b_newI X hI hG ⟨by have := hz.1; omega, by omega⟩ kw41 (N := 4) (by omega) (Nat.le_of_ble_eq_true rfl) (Nat.le_of_ble_eq_true rfl) d_Model_init_84 (fun H hI => ?_)
  replace hI := b_sw (K2 := 682) (by omega) hI rfl
  refine b_putF X hin hI P_Model_40 (v := .ref 681) (by simp) rfl rfl d_Model_init_86 (fun H locs hI => ?_)
  have hI : zI G 682 s (bA S0) H locs (zup (zup (zup (zup (zup (zup (zup (zup (zup (zup (zup (zup h 671 (zI32 60 zZ0)) 672 (zI32 360 zZ0)) 673 (zI32 6 zZ0)) 674 (zI32 10 zZ0)) 675 (zI32 91 zZ0)) 676 (zI32 364 zZ0)) 677 (zI32 4 zZ0)) 678 (zI32 4 zZ0)) 679 (zI32 4 zZ0)) 680 (zI32 4 zZ0)) 681 (zI32 4 zZ0)) 670 (.inl (7, [.ref 671, .int 0, .ref 672, .ref 673, .int 0, .ref 674, .int 0, .ref 675, .int 0, .int 0, .int 0, .int 0, .ref 676, .ref 677, .ref 678, .ref 679, .ref 680, .ref 681, .null, .int 0, .null, .null, .null, .null, .null, .int 0, .null, .int 0, .int 0, .null, .null, .null, .null]))) := hI
  refine lv_aload_n hx hb d_Model_init_89 rfl (lv_at hl 0 rfl) ?_
  refine lv_iconst (v := (nI 4)) hx hb d_Model_init_90 (by decide) ?_
  refine b_newI X hI hG ⟨by have := hz.1; omega, by omega⟩ kw41 (N := 4) (by omega) (Nat.le_of_ble_eq_true rfl) (Nat.le_of_ble_eq_true rfl) d_Model_init_91 (fun H hI => ?_)
  replace hI := b_sw (K2 := 683) (by omega) hI rfl
  refine b_putF X hin hI P_Model_43 (v := .ref 682) (by simp) rfl rfl d_Model_init_93 (fun H locs hI => ?_)
  have hI : zI G 683 s (bA S0) H locs (zup (zup (zup (zup (zup (zup (zup (zup (zup (zup (zup (zup (zup h 671 (zI32 60 zZ0)) 672 (zI32 360 zZ0)) 673 (zI32 6 zZ0)) 674 (zI32 10 zZ0)) 675 (zI32 91 zZ0)) 676 (zI32 364 zZ0)) 677 (zI32 4 zZ0)) 678 (zI32 4 zZ0)) 679 (zI32 4 zZ0)) 680 (zI32 4 zZ0)) 681 (zI32 4 zZ0)) 682 (zI32 4 zZ0)) 670 (.inl (7, [.ref 671, .int 0, .ref 672, .ref 673, .int 0, .ref 674, .int 0, .ref 675, .int 0, .int 0, .int 0, .int 0, .ref 676, .ref 677, .ref 678, .ref 679, .ref 680, .ref 681, .ref 682, .int 0, .null, .null, .null, .null, .null, .int 0, .null, .int 0, .int 0, .null, .null, .null, .null]))) := hI
  refine lv_aload_n hx hb d_Model_init_96 rfl (lv_at hl 0 rfl) ?_
  refine lv_sipush (v := (nI 13741)) hx hb d_Model_init_97 (by decide) ?_
  refine b_newI X hI hG ⟨by have := hz.1; omega, by omega⟩ kw41 (N := 13741) (by omega) (Nat.le_of_ble_eq_true rfl) (Nat.le_of_ble_eq_true rfl) d_Model_init_100 (fun H hI => ?_)
  replace hI := b_sw (K2 := 684) (by omega) hI rfl
  refine b_putF X hin hI P_Model_46 (v := .ref 683) (by simp) rfl rfl d_Model_init_102 (fun H locs hI => ?_)
  have hI : zI G 684 s (bA S0) H locs (zup (zup (zup (zup (zup (zup (zup (zup (zup (zup (zup (zup (zup (zup h 671 (zI32 60 zZ0)) 672 (zI32 360 zZ0)) 673 (zI32 6 zZ0)) 674 (zI32 10 zZ0)) 675 (zI32 91 zZ0)) 676 (zI32 364 zZ0)) 677 (zI32 4 zZ0)) 678 (zI32 4 zZ0)) 679 (zI32 4 zZ0)) 680 (zI32 4 zZ0)) 681 (zI32 4 zZ0)) 682 (zI32 4 zZ0)) 683 (zI32 13741 zZ0)) 670 (.inl (7, [.ref 671, .int 0, .ref 672, .ref 673, .int 0, .ref 674, .int 0, .ref 675, .int 0, .int 0, .int 0, .int 0, .ref 676, .ref 677, .ref 678, .ref 679, .ref 680, .ref 681, .ref 682, .int 0, .ref 683, .null, .null, .null, .null, .int 0, .null, .int 0, .int 0, .null, .null, .null, .null]))) := hI
  refine lv_aload_n hx hb d_Model_init_105 rfl (lv_at hl 0 rfl) ?_
  refine lv_sipush (v := (nI 151)) hx hb d_Model_init_106 (by decide) ?_
  refine b_newI X hI hG ⟨by have := hz.1; omega, by omega⟩ kw41 (N := 151) (by omega) (Nat.le_of_ble_eq_true rfl) (Nat.le_of_ble_eq_true rfl) d_Model_init_109 (fun H hI => ?_)
  replace hI := b_sw (K2 := 685) (by omega) hI rfl
  refine b_putF X hin hI P_Model_49 (v := .ref 684) (by simp) rfl rfl d_Model_init_111 (fun H locs hI => ?_)
  have hI : zI G 685 s (bA S0) H locs (zup (zup (zup (zup (zup (zup (zup (zup (zup (zup (zup (zup (zup (zup (zup h 671 (zI32 60 zZ0)) 672 (zI32 360 zZ0)) 673 (zI32 6 zZ0)) 674 (zI32 10 zZ0)) 675 (zI32 91 zZ0)) 676 (zI32 364 zZ0)) 677 (zI32 4 zZ0)) 678 (zI32 4 zZ0)) 679 (zI32 4 zZ0)) 680 (zI32 4 zZ0)) 681 (zI32 4 zZ0)) 682 (zI32 4 zZ0)) 683 (zI32 13741 zZ0)) 684 (zI32 151 zZ0)) 670 (.inl (7, [.ref 671, .int 0, .ref 672, .ref 673, .int 0, .ref 674, .int 0, .ref 675, .int 0, .int 0, .int 0, .int 0, .ref 676, .ref 677, .ref 678, .ref 679, .ref 680, .ref 681, .ref 682, .int 0, .ref 683, .ref 684, .null, .null, .null, .int 0, .null, .int 0, .int 0, .null, .null, .null, .null]))) := hI
  refine lv_aload_n hx hb d_Model_init_114 rfl (lv_at hl 0 rfl) ?_
  refine lv_sipush (v := (nI 151)) hx hb d_Model_init_115 (by decide) ?_
  refine b_newI X hI hG ⟨by have := hz.1; omega, by omega⟩ kw41 (N := 151) (by omega) (Nat.le_of_ble_eq_true rfl) (Nat.le_of_ble_eq_true rfl) d_Model_init_118 (fun H hI => ?_)
  replace hI := b_sw (K2 := 686) (by omega) hI rfl
  refine b_putF X hin hI P_Model_52 (v := .ref 685) (by simp) rfl rfl d_Model_init_120 (fun H locs hI => ?_)
  have hI : zI G 686 s (bA S0) H locs (zup (zup (zup (zup (zup (zup (zup (zup (zup (zup (zup (zup (zup (zup (zup (zup h 671 (zI32 60 zZ0)) 672 (zI32 360 zZ0)) 673 (zI32 6 zZ0)) 674 (zI32 10 zZ0)) 675 (zI32 91 zZ0)) 676 (zI32 364 zZ0)) 677 (zI32 4 zZ0)) 678 (zI32 4 zZ0)) 679 (zI32 4 zZ0)) 680 (zI32 4 zZ0)) 681 (zI32 4 zZ0)) 682 (zI32 4 zZ0)) 683 (zI32 13741 zZ0)) 684 (zI32 151 zZ0)) 685 (zI32 151 zZ0)) 670 (.inl (7, [.ref 671, .int 0, .ref 672, .ref 673, .int 0, .ref 674, .int 0, .ref 675, .int 0, .int 0, .int 0, .int 0, .ref 676, .ref 677, .ref 678, .ref 679, .ref 680, .ref 681, .ref 682, .int 0, .ref 683, .ref 684, .ref 685, .null, .null, .int 0, .null, .int 0, .int 0, .null, .null, .null, .null]))) := hI
  refine lv_aload_n hx hb d_Model_init_123 rfl (lv_at hl 0 rfl) ?_
  refine lv_sipush (v := (nI 151)) hx hb d_Model_init_124 (by decide) ?_
  refine b_newZ X hI hG ⟨by have := hz.1; omega, by omega⟩ kw67 (N := 151) (by omega) (Nat.le_of_ble_eq_true rfl) (Nat.le_of_ble_eq_true rfl) d_Model_init_127 (fun H hI => ?_)
  replace hI := b_sw (K2 := 687) (by omega) hI rfl
  refine b_putF X hin hI P_Model_55 (v := .ref 686) (by simp) rfl rfl d_Model_init_129 (fun H locs hI => ?_)
  have hI : zI G 687 s (bA S0) H locs (zup (zup (zup (zup (zup (zup (zup (zup (zup (zup (zup (zup (zup (zup (zup (zup (zup h 671 (zI32 60 zZ0)) 672 (zI32 360 zZ0)) 673 (zI32 6 zZ0)) 674 (zI32 10 zZ0)) 675 (zI32 91 zZ0)) 676 (zI32 364 zZ0)) 677 (zI32 4 zZ0)) 678 (zI32 4 zZ0)) 679 (zI32 4 zZ0)) 680 (zI32 4 zZ0)) 681 (zI32 4 zZ0)) 682 (zI32 4 zZ0)) 683 (zI32 13741 zZ0)) 684 (zI32 151 zZ0)) 685 (zI32 151 zZ0)) 686 (zI1 151 zZ0)) 670 (.inl (7, [.ref 671, .int 0, .ref 672, .ref 673, .int 0, .ref 674, .int 0, .ref 675, .int 0, .int 0, .int 0, .int 0, .ref 676, .ref 677, .ref 678, .ref 679, .ref 680, .ref 681, .ref 682, .int 0, .ref 683, .ref 684, .ref 685, .ref 686, .null, .int 0, .null, .int 0, .int 0, .null, .null, .null, .null]))) := hI
  refine lv_aload_n hx hb d_Model_init_132 rfl (lv_at hl 0 rfl) ?_
  refine lv_sipush (v := (nI 22801)) hx hb d_Model_init_133 (by decide) ?_
  refine b_newZ X hI hG ⟨by have := hz.1; omega, by omega⟩ kw67 (N := 22801) (by omega) (Nat.le_of_ble_eq_true rfl) (Nat.le_of_ble_eq_true rfl) d_Model_init_136 (fun H hI => ?_)
  replace hI := b_sw (K2 := 688) (by omega) hI rfl
  refine b_putF X hin hI P_Model_59 (v := .ref 687) (by simp) rfl rfl d_Model_init_138 (fun H locs hI => ?_)
  have hI : zI G 688 s (bA S0) H locs (zup (zup (zup (zup (zup (zup (zup (zup (zup (zup (zup (zup (zup (zup (zup (zup (zup (zup h 671 (zI32 60 zZ0)) 672 (zI32 360 zZ0)) 673 (zI32 6 zZ0)) 674 (zI32 10 zZ0)) 675 (zI32 91 zZ0)) 676 (zI32 364 zZ0)) 677 (zI32 4 zZ0)) 678 (zI32 4 zZ0)) 679 (zI32 4 zZ0)) 680 (zI32 4 zZ0)) 681 (zI32 4 zZ0)) 682 (zI32 4 zZ0)) 683 (zI32 13741 zZ0)) 684 (zI32 151 zZ0)) 685 (zI32 151 zZ0)) 686 (zI1 151 zZ0)) 687 (zI1 22801 zZ0)) 670 (.inl (7, [.ref 671, .int 0, .ref 672, .ref 673, .int 0, .ref 674, .int 0, .ref 675, .int 0, .int 0, .int 0, .int 0, .ref 676, .ref 677, .ref 678, .ref 679, .ref 680, .ref 681, .ref 682, .int 0, .ref 683, .ref 684, .ref 685, .ref 686, .ref 687, .int 0, .null, .int 0, .int 0, .null, .null, .null, .null]))) := hI
  refine lv_aload_n hx hb d_Model_init_141 rfl (lv_at hl 0 rfl) ?_
  refine lv_bipush (v := (nI 24)) hx hb d_Model_init_142 (by decide) ?_
  refine b_newI X hI hG ⟨by have := hz.1; omega, by omega⟩ kw41 (N := 24) (by omega) (Nat.le_of_ble_eq_true rfl) (Nat.le_of_ble_eq_true rfl) d_Model_init_144 (fun H hI => ?_)
  replace hI := b_sw (K2 := 689) (by omega) hI rfl
  refine b_putF X hin hI P_Model_62 (v := .ref 688) (by simp) rfl rfl d_Model_init_146 (fun H locs hI => ?_)
  have hI : zI G 689 s (bA S0) H locs (zup (zup (zup (zup (zup (zup (zup (zup (zup (zup (zup (zup (zup (zup (zup (zup (zup (zup (zup h 671 (zI32 60 zZ0)) 672 (zI32 360 zZ0)) 673 (zI32 6 zZ0)) 674 (zI32 10 zZ0)) 675 (zI32 91 zZ0)) 676 (zI32 364 zZ0)) 677 (zI32 4 zZ0)) 678 (zI32 4 zZ0)) 679 (zI32 4 zZ0)) 680 (zI32 4 zZ0)) 681 (zI32 4 zZ0)) 682 (zI32 4 zZ0)) 683 (zI32 13741 zZ0)) 684 (zI32 151 zZ0)) 685 (zI32 151 zZ0)) 686 (zI1 151 zZ0)) 687 (zI1 22801 zZ0)) 688 (zI32 24 zZ0)) 670 (.inl (7, [.ref 671, .int 0, .ref 672, .ref 673, .int 0, .ref 674, .int 0, .ref 675, .int 0, .int 0, .int 0, .int 0, .ref 676, .ref 677, .ref 678, .ref 679, .ref 680, .ref 681, .ref 682, .int 0, .ref 683, .ref 684, .ref 685, .ref 686, .ref 687, .int 0, .ref 688, .int 0, .int 0, .null, .null, .null, .null]))) := hI
  refine lv_aload_n hx hb d_Model_init_149 rfl (lv_at hl 0 rfl) ?_
  refine lv_bipush (v := (nI 6)) hx hb d_Model_init_150 (by decide) ?_
  refine b_newI X hI hG ⟨by have := hz.1; omega, by omega⟩ kw41 (N := 6) (by omega) (Nat.le_of_ble_eq_true rfl) (Nat.le_of_ble_eq_true rfl) d_Model_init_152 (fun H hI => ?_)
  replace hI := b_sw (K2 := 690) (by omega) hI rfl
  refine b_putF X hin hI P_Model_65 (v := .ref 689) (by simp) rfl rfl d_Model_init_154 (fun H locs hI => ?_)
  have hI : zI G 690 s (bA S0) H locs (zup (zup (zup (zup (zup (zup (zup (zup (zup (zup (zup (zup (zup (zup (zup (zup (zup (zup (zup (zup h 671 (zI32 60 zZ0)) 672 (zI32 360 zZ0)) 673 (zI32 6 zZ0)) 674 (zI32 10 zZ0)) 675 (zI32 91 zZ0)) 676 (zI32 364 zZ0)) 677 (zI32 4 zZ0)) 678 (zI32 4 zZ0)) 679 (zI32 4 zZ0)) 680 (zI32 4 zZ0)) 681 (zI32 4 zZ0)) 682 (zI32 4 zZ0)) 683 (zI32 13741 zZ0)) 684 (zI32 151 zZ0)) 685 (zI32 151 zZ0)) 686 (zI1 151 zZ0)) 687 (zI1 22801 zZ0)) 688 (zI32 24 zZ0)) 689 (zI32 6 zZ0)) 670 (.inl (7, [.ref 671, .int 0, .ref 672, .ref 673, .int 0, .ref 674, .int 0, .ref 675, .int 0, .int 0, .int 0, .int 0, .ref 676, .ref 677, .ref 678, .ref 679, .ref 680, .ref 681, .ref 682, .int 0, .ref 683, .ref 684, .ref 685, .ref 686, .ref 687, .int 0, .ref 688, .int 0, .int 0, .ref 689, .null, .null, .null]))) := hI
  refine lv_aload_n hx hb d_Model_init_157 rfl (lv_at hl 0 rfl) ?_
  refine lv_bipush (v := (nI 6)) hx hb d_Model_init_158 (by decide) ?_
  refine b_newI X hI hG ⟨by have := hz.1; omega, by omega⟩ kw41 (N := 6) (by omega) (Nat.le_of_ble_eq_true rfl) (Nat.le_of_ble_eq_true rfl) d_Model_init_160 (fun H hI => ?_)
  replace hI := b_sw (K2 := 691) (by omega) hI rfl
  refine b_putF X hin hI P_Model_68 (v := .ref 690) (by simp) rfl rfl d_Model_init_162 (fun H locs hI => ?_)
  have hI : zI G 691 s (bA S0) H locs (zup (zup (zup (zup (zup (zup (zup (zup (zup (zup (zup (zup (zup (zup (zup (zup (zup (zup (zup (zup (zup h 671 (zI32 60 zZ0)) 672 (zI32 360 zZ0)) 673 (zI32 6 zZ0)) 674 (zI32 10 zZ0)) 675 (zI32 91 zZ0)) 676 (zI32 364 zZ0)) 677 (zI32 4 zZ0)) 678 (zI32 4 zZ0)) 679 (zI32 4 zZ0)) 680 (zI32 4 zZ0)) 681 (zI32 4 zZ0)) 682 (zI32 4 zZ0)) 683 (zI32 13741 zZ0)) 684 (zI32 151 zZ0)) 685 (zI32 151 zZ0)) 686 (zI1 151 zZ0)) 687 (zI1 22801 zZ0)) 688 (zI32 24 zZ0)) 689 (zI32 6 zZ0)) 690 (zI32 6 zZ0)) 670 (.inl (7, [.ref 671, .int 0, .ref 672, .ref 673, .int 0, .ref 674, .int 0, .ref 675, .int 0, .int 0, .int 0, .int 0, .ref 676, .ref 677, .ref 678, .ref 679, .ref 680, .ref 681, .ref 682, .int 0, .ref 683, .ref 684, .ref 685, .ref 686, .ref 687, .int 0, .ref 688, .int 0, .int 0, .ref 689, .ref 690, .null, .null]))) := hI
  refine lv_aload_n hx hb d_Model_init_165 rfl (lv_at hl 0 rfl) ?_
  refine lv_sipush (v := (nI 360)) hx hb d_Model_init_166 (by decide) ?_
  refine b_newJ X hI hG ⟨by have := hz.1; omega, by omega⟩ kw176 (N := 360) (by omega) (Nat.le_of_ble_eq_true rfl) (Nat.le_of_ble_eq_true rfl) d_Model_init_169 (fun H hI => ?_)
  replace hI := b_sw (K2 := 692) (by omega) hI rfl
  refine b_putF X hin hI P_Model_71 (v := .ref 691) (by simp) rfl rfl d_Model_init_171 (fun H locs hI => ?_)
  have hI : zI G 692 s (bA S0) H locs (zup (zup (zup (zup (zup (zup (zup (zup (zup (zup (zup (zup (zup (zup (zup (zup (zup (zup (zup (zup (zup (zup h 671 (zI32 60 zZ0)) 672 (zI32 360 zZ0)) 673 (zI32 6 zZ0)) 674 (zI32 10 zZ0)) 675 (zI32 91 zZ0)) 676 (zI32 364 zZ0)) 677 (zI32 4 zZ0)) 678 (zI32 4 zZ0)) 679 (zI32 4 zZ0)) 680 (zI32 4 zZ0)) 681 (zI32 4 zZ0)) 682 (zI32 4 zZ0)) 683 (zI32 13741 zZ0)) 684 (zI32 151 zZ0)) 685 (zI32 151 zZ0)) 686 (zI1 151 zZ0)) 687 (zI1 22801 zZ0)) 688 (zI32 24 zZ0)) 689 (zI32 6 zZ0)) 690 (zI32 6 zZ0)) 691 (zI64 360 zJ0)) 670 (.inl (7, [.ref 671, .int 0, .ref 672, .ref 673, .int 0, .ref 674, .int 0, .ref 675, .int 0, .int 0, .int 0, .int 0, .ref 676, .ref 677, .ref 678, .ref 679, .ref 680, .ref 681, .ref 682, .int 0, .ref 683, .ref 684, .ref 685, .ref 686, .ref 687, .int 0, .ref 688, .int 0, .int 0, .ref 689, .ref 690, .ref 691, .null]))) := hI
  refine lv_aload_n hx hb d_Model_init_174 rfl (lv_at hl 0 rfl) ?_
  refine lv_bipush (v := (nI 60)) hx hb d_Model_init_175 (by decide) ?_
  refine b_newJ X hI hG ⟨by have := hz.1; omega, by omega⟩ kw176 (N := 60) (by omega) (Nat.le_of_ble_eq_true rfl) (Nat.le_of_ble_eq_true rfl) d_Model_init_177 (fun H hI => ?_)
  replace hI := b_sw (K2 := 693) (by omega) hI rfl
  refine b_putF X hin hI P_Model_75 (v := .ref 692) (by simp) rfl rfl d_Model_init_179 (fun H locs hI => ?_)
  have hI : zI G 693 s (bA S0) H locs (zup (zup (zup (zup (zup (zup (zup (zup (zup (zup (zup (zup (zup (zup (zup (zup (zup (zup (zup (zup (zup (zup (zup h 671 (zI32 60 zZ0)) 672 (zI32 360 zZ0)) 673 (zI32 6 zZ0)) 674 (zI32 10 zZ0)) 675 (zI32 91 zZ0)) 676 (zI32 364 zZ0)) 677 (zI32 4 zZ0)) 678 (zI32 4 zZ0)) 679 (zI32 4 zZ0)) 680 (zI32 4 zZ0)) 681 (zI32 4 zZ0)) 682 (zI32 4 zZ0)) 683 (zI32 13741 zZ0)) 684 (zI32 151 zZ0)) 685 (zI32 151 zZ0)) 686 (zI1 151 zZ0)) 687 (zI1 22801 zZ0)) 688 (zI32 24 zZ0)) 689 (zI32 6 zZ0)) 690 (zI32 6 zZ0)) 691 (zI64 360 zJ0)) 692 (zI64 60 zJ0)) 670 (.inl (7, [.ref 671, .int 0, .ref 672, .ref 673, .int 0, .ref 674, .int 0, .ref 675, .int 0, .int 0, .int 0, .int 0, .ref 676, .ref 677, .ref 678, .ref 679, .ref 680, .ref 681, .ref 682, .int 0, .ref 683, .ref 684, .ref 685, .ref 686, .ref 687, .int 0, .ref 688, .int 0, .int 0, .ref 689, .ref 690, .ref 691, .ref 692]))) := hI
  refine lv_iconst (v := (nI 0)) hx hb d_Model_init_182 (by decide) ?_
  refine lv_istore_n (lv' := [(1, .int (nI 0)), (0, .ref (G.1 670))]) hx hb d_Model_init_183 rfl hl (by decide) rfl (fun ls hl => ?_)
  refine lv_iload_n hx hb d_Model_init_184 rfl (lv_at hl 0 rfl) ?_
  refine lv_bipush (v := (nI 6)) hx hb d_Model_init_185 (by decide) ?_
  refine lv_icmp_ge (tgt := 203) hx hb d_Model_init_187 (by decide) (fun hc => absurd hc (by decide)) (fun hc => ?_)
  refine lv_aload_n hx hb d_Model_init_190 rfl (lv_at hl 1 rfl) ?_
  refine b_getR X (a := 670) hI (zup_eq _ _ _) F_Model_65 (x := 689) rfl d_Model_init_191 ?_
  refine lv_iload_n hx hb d_Model_init_194 rfl (lv_at hl 0 rfl) ?_
  refine lv_iconst (v := (-1 : Int32)) hx hb d_Model_init_195 (by decide) ?_
  refine z_iast X hI (h' := zup (zup (zup (zup (zup (zup (zup (zup (zup (zup (zup (zup (zup (zup (zup (zup (zup (zup (zup (zup (zup (zup (zup (zup h 671 (zI32 60 zZ0)) 672 (zI32 360 zZ0)) 673 (zI32 6 zZ0)) 674 (zI32 10 zZ0)) 675 (zI32 91 zZ0)) 676 (zI32 364 zZ0)) 677 (zI32 4 zZ0)) 678 (zI32 4 zZ0)) 679 (zI32 4 zZ0)) 680 (zI32 4 zZ0)) 681 (zI32 4 zZ0)) 682 (zI32 4 zZ0)) 683 (zI32 13741 zZ0)) 684 (zI32 151 zZ0)) 685 (zI32 151 zZ0)) 686 (zI1 151 zZ0)) 687 (zI1 22801 zZ0)) 688 (zI32 24 zZ0)) 689 (zI32 6 zZ0)) 690 (zI32 6 zZ0)) 691 (zI64 360 zJ0)) 692 (zI64 60 zJ0)) 670 (.inl (7, [.ref 671, .int 0, .ref 672, .ref 673, .int 0, .ref 674, .int 0, .ref 675, .int 0, .int 0, .int 0, .int 0, .ref 676, .ref 677, .ref 678, .ref 679, .ref 680, .ref 681, .ref 682, .int 0, .ref 683, .ref 684, .ref 685, .ref 686, .ref 687, .int 0, .ref 688, .int 0, .int 0, .ref 689, .ref 690, .ref 691, .ref 692]))) 689 (zI32 6 (upd zZ0 0 (-1 : Int32)))) ?_ d_Model_init_196 (fun H locs hI => ?_)
  · exact zS32_of (by simp (disch := omega) only [zup_ne, zup_eq, i_Huts_init_ne, i_Orders_init_ne, i_Acts_init_ne, i_Run_init_ne, i_Shelf_init_ne]) (by omega) (by omega)
  replace hI := b_sw (K2 := 693) (by omega) hI rfl
  refine lv_iinc (v := (nI 1)) (lv' := [(1, .int (nI 1)), (0, .ref (G.1 670))]) hx hb d_Model_init_197 hl (k := 0) rfl (by decide) (by decide) rfl (fun ls hl => ?_)
  refine lv_goto (tgt := 184) hx hb d_Model_init_200 (by decide) ?_
  refine lv_iload_n hx hb d_Model_init_184 rfl (lv_at hl 0 rfl) ?_
  refine lv_bipush (v := (nI 6)) hx hb d_Model_init_185 (by decide) ?_
  refine lv_icmp_ge (tgt := 203) hx hb d_Model_init_187 (by decide) (fun hc => absurd hc (by decide)) (fun hc => ?_)
  refine lv_aload_n hx hb d_Model_init_190 rfl (lv_at hl 1 rfl) ?_
  refine b_getR X (a := 670) hI (zup_eq _ _ _) F_Model_65 (x := 689) rfl d_Model_init_191 ?_
  refine lv_iload_n hx hb d_Model_init_194 rfl (lv_at hl 0 rfl) ?_
  refine lv_iconst (v := (-1 : Int32)) hx hb d_Model_init_195 (by decide) ?_
  refine z_iast X hI (h' := zup (zup (zup (zup (zup (zup (zup (zup (zup (zup (zup (zup (zup (zup (zup (zup (zup (zup (zup (zup (zup (zup (zup (zup (zup h 671 (zI32 60 zZ0)) 672 (zI32 360 zZ0)) 673 (zI32 6 zZ0)) 674 (zI32 10 zZ0)) 675 (zI32 91 zZ0)) 676 (zI32 364 zZ0)) 677 (zI32 4 zZ0)) 678 (zI32 4 zZ0)) 679 (zI32 4 zZ0)) 680 (zI32 4 zZ0)) 681 (zI32 4 zZ0)) 682 (zI32 4 zZ0)) 683 (zI32 13741 zZ0)) 684 (zI32 151 zZ0)) 685 (zI32 151 zZ0)) 686 (zI1 151 zZ0)) 687 (zI1 22801 zZ0)) 688 (zI32 24 zZ0)) 689 (zI32 6 zZ0)) 690 (zI32 6 zZ0)) 691 (zI64 360 zJ0)) 692 (zI64 60 zJ0)) 689 (zI32 6 (upd zZ0 0 (-1 : Int32)))) 670 (.inl (7, [.ref 671, .int 0, .ref 672, .ref 673, .int 0, .ref 674, .int 0, .ref 675, .int 0, .int 0, .int 0, .int 0, .ref 676, .ref 677, .ref 678, .ref 679, .ref 680, .ref 681, .ref 682, .int 0, .ref 683, .ref 684, .ref 685, .ref 686, .ref 687, .int 0, .ref 688, .int 0, .int 0, .ref 689, .ref 690, .ref 691, .ref 692]))) 689 (zI32 6 (upd (upd zZ0 0 (-1 : Int32)) 1 (-1 : Int32)))) ?_ d_Model_init_196 (fun H locs hI => ?_)
  · exact zS32_of (by simp (disch := omega) only [zup_ne, zup_eq, i_Huts_init_ne, i_Orders_init_ne, i_Acts_init_ne, i_Run_init_ne, i_Shelf_init_ne]) (by omega) (by omega)
  replace hI := b_sw (K2 := 693) (by omega) hI rfl
  refine lv_iinc (v := (nI 2)) (lv' := [(1, .int (nI 2)), (0, .ref (G.1 670))]) hx hb d_Model_init_197 hl (k := 0) rfl (by decide) (by decide) rfl (fun ls hl => ?_)
  refine lv_goto (tgt := 184) hx hb d_Model_init_200 (by decide) ?_
  refine lv_iload_n hx hb d_Model_init_184 rfl (lv_at hl 0 rfl) ?_
  refine lv_bipush (v := (nI 6)) hx hb d_Model_init_185 (by decide) ?_
  refine lv_icmp_ge (tgt := 203) hx hb d_Model_init_187 (by decide) (fun hc => absurd hc (by decide)) (fun hc => ?_)
  refine lv_aload_n hx hb d_Model_init_190 rfl (lv_at hl 1 rfl) ?_
  refine b_getR X (a := 670) hI (zup_eq _ _ _) F_Model_65 (x := 689) rfl d_Model_init_191 ?_
  refine lv_iload_n hx hb d_Model_init_194 rfl (lv_at hl 0 rfl) ?_
  refine lv_iconst (v := (-1 : Int32)) hx hb d_Model_init_195 (by decide) ?_
  refine z_iast X hI (h' := zup (zup (zup (zup (zup (zup (zup (zup (zup (zup (zup (zup (zup (zup (zup (zup (zup (zup (zup (zup (zup (zup (zup (zup (zup (zup h 671 (zI32 60 zZ0)) 672 (zI32 360 zZ0)) 673 (zI32 6 zZ0)) 674 (zI32 10 zZ0)) 675 (zI32 91 zZ0)) 676 (zI32 364 zZ0)) 677 (zI32 4 zZ0)) 678 (zI32 4 zZ0)) 679 (zI32 4 zZ0)) 680 (zI32 4 zZ0)) 681 (zI32 4 zZ0)) 682 (zI32 4 zZ0)) 683 (zI32 13741 zZ0)) 684 (zI32 151 zZ0)) 685 (zI32 151 zZ0)) 686 (zI1 151 zZ0)) 687 (zI1 22801 zZ0)) 688 (zI32 24 zZ0)) 689 (zI32 6 zZ0)) 690 (zI32 6 zZ0)) 691 (zI64 360 zJ0)) 692 (zI64 60 zJ0)) 689 (zI32 6 (upd zZ0 0 (-1 : Int32)))) 689 (zI32 6 (upd (upd zZ0 0 (-1 : Int32)) 1 (-1 : Int32)))) 670 (.inl (7, [.ref 671, .int 0, .ref 672, .ref 673, .int 0, .ref 674, .int 0, .ref 675, .int 0, .int 0, .int 0, .int 0, .ref 676, .ref 677, .ref 678, .ref 679, .ref 680, .ref 681, .ref 682, .int 0, .ref 683, .ref 684, .ref 685, .ref 686, .ref 687, .int 0, .ref 688, .int 0, .int 0, .ref 689, .ref 690, .ref 691, .ref 692]))) 689 (zI32 6 (upd (upd (upd zZ0 0 (-1 : Int32)) 1 (-1 : Int32)) 2 (-1 : Int32)))) ?_ d_Model_init_196 (fun H locs hI => ?_)
  · exact zS32_of (by simp (disch := omega) only [zup_ne, zup_eq, i_Huts_init_ne, i_Orders_init_ne, i_Acts_init_ne, i_Run_init_ne, i_Shelf_init_ne]) (by omega) (by omega)
  replace hI := b_sw (K2 := 693) (by omega) hI rfl
  refine lv_iinc (v := (nI 3)) (lv' := [(1, .int (nI 3)), (0, .ref (G.1 670))]) hx hb d_Model_init_197 hl (k := 0) rfl (by decide) (by decide) rfl (fun ls hl => ?_)
  refine lv_goto (tgt := 184) hx hb d_Model_init_200 (by decide) ?_
  refine lv_iload_n hx hb d_Model_init_184 rfl (lv_at hl 0 rfl) ?_
  refine lv_bipush (v := (nI 6)) hx hb d_Model_init_185 (by decide) ?_
  refine lv_icmp_ge (tgt := 203) hx hb d_Model_init_187 (by decide) (fun hc => absurd hc (by decide)) (fun hc => ?_)
  refine lv_aload_n hx hb d_Model_init_190 rfl (lv_at hl 1 rfl) ?_
  refine b_getR X (a := 670) hI (zup_eq _ _ _) F_Model_65 (x := 689) rfl d_Model_init_191 ?_
  refine lv_iload_n hx hb d_Model_init_194 rfl (lv_at hl 0 rfl) ?_
  refine lv_iconst (v := (-1 : Int32)) hx hb d_Model_init_195 (by decide) ?_
  refine z_iast X hI (h' := zup (zup (zup (zup (zup (zup (zup (zup (zup (zup (zup (zup (zup (zup (zup (zup (zup (zup (zup (zup (zup (zup (zup (zup (zup (zup (zup h 671 (zI32 60 zZ0)) 672 (zI32 360 zZ0)) 673 (zI32 6 zZ0)) 674 (zI32 10 zZ0)) 675 (zI32 91 zZ0)) 676 (zI32 364 zZ0)) 677 (zI32 4 zZ0)) 678 (zI32 4 zZ0)) 679 (zI32 4 zZ0)) 680 (zI32 4 zZ0)) 681 (zI32 4 zZ0)) 682 (zI32 4 zZ0)) 683 (zI32 13741 zZ0)) 684 (zI32 151 zZ0)) 685 (zI32 151 zZ0)) 686 (zI1 151 zZ0)) 687 (zI1 22801 zZ0)) 688 (zI32 24 zZ0)) 689 (zI32 6 zZ0)) 690 (zI32 6 zZ0)) 691 (zI64 360 zJ0)) 692 (zI64 60 zJ0)) 689 (zI32 6 (upd zZ0 0 (-1 : Int32)))) 689 (zI32 6 (upd (upd zZ0 0 (-1 : Int32)) 1 (-1 : Int32)))) 689 (zI32 6 (upd (upd (upd zZ0 0 (-1 : Int32)) 1 (-1 : Int32)) 2 (-1 : Int32)))) 670 (.inl (7, [.ref 671, .int 0, .ref 672, .ref 673, .int 0, .ref 674, .int 0, .ref 675, .int 0, .int 0, .int 0, .int 0, .ref 676, .ref 677, .ref 678, .ref 679, .ref 680, .ref 681, .ref 682, .int 0, .ref 683, .ref 684, .ref 685, .ref 686, .ref 687, .int 0, .ref 688, .int 0, .int 0, .ref 689, .ref 690, .ref 691, .ref 692]))) 689 (zI32 6 (upd (upd (upd (upd zZ0 0 (-1 : Int32)) 1 (-1 : Int32)) 2 (-1 : Int32)) 3 (-1 : Int32)))) ?_ d_Model_init_196 (fun H locs hI => ?_)
  · exact zS32_of (by simp (disch := omega) only [zup_ne, zup_eq, i_Huts_init_ne, i_Orders_init_ne, i_Acts_init_ne, i_Run_init_ne, i_Shelf_init_ne]) (by omega) (by omega)
  replace hI := b_sw (K2 := 693) (by omega) hI rfl
  refine lv_iinc (v := (nI 4)) (lv' := [(1, .int (nI 4)), (0, .ref (G.1 670))]) hx hb d_Model_init_197 hl (k := 0) rfl (by decide) (by decide) rfl (fun ls hl => ?_)
  refine lv_goto (tgt := 184) hx hb d_Model_init_200 (by decide) ?_
  refine lv_iload_n hx hb d_Model_init_184 rfl (lv_at hl 0 rfl) ?_
  refine lv_bipush (v := (nI 6)) hx hb d_Model_init_185 (by decide) ?_
  refine lv_icmp_ge (tgt := 203) hx hb d_Model_init_187 (by decide) (fun hc => absurd hc (by decide)) (fun hc => ?_)
  refine lv_aload_n hx hb d_Model_init_190 rfl (lv_at hl 1 rfl) ?_
  refine b_getR X (a := 670) hI (zup_eq _ _ _) F_Model_65 (x := 689) rfl d_Model_init_191 ?_
  refine lv_iload_n hx hb d_Model_init_194 rfl (lv_at hl 0 rfl) ?_
  refine lv_iconst (v := (-1 : Int32)) hx hb d_Model_init_195 (by decide) ?_
  refine z_iast X hI (h' := zup (zup (zup (zup (zup (zup (zup (zup (zup (zup (zup (zup (zup (zup (zup (zup (zup (zup (zup (zup (zup (zup (zup (zup (zup (zup (zup (zup h 671 (zI32 60 zZ0)) 672 (zI32 360 zZ0)) 673 (zI32 6 zZ0)) 674 (zI32 10 zZ0)) 675 (zI32 91 zZ0)) 676 (zI32 364 zZ0)) 677 (zI32 4 zZ0)) 678 (zI32 4 zZ0)) 679 (zI32 4 zZ0)) 680 (zI32 4 zZ0)) 681 (zI32 4 zZ0)) 682 (zI32 4 zZ0)) 683 (zI32 13741 zZ0)) 684 (zI32 151 zZ0)) 685 (zI32 151 zZ0)) 686 (zI1 151 zZ0)) 687 (zI1 22801 zZ0)) 688 (zI32 24 zZ0)) 689 (zI32 6 zZ0)) 690 (zI32 6 zZ0)) 691 (zI64 360 zJ0)) 692 (zI64 60 zJ0)) 689 (zI32 6 (upd zZ0 0 (-1 : Int32)))) 689 (zI32 6 (upd (upd zZ0 0 (-1 : Int32)) 1 (-1 : Int32)))) 689 (zI32 6 (upd (upd (upd zZ0 0 (-1 : Int32)) 1 (-1 : Int32)) 2 (-1 : Int32)))) 689 (zI32 6 (upd (upd (upd (upd zZ0 0 (-1 : Int32)) 1 (-1 : Int32)) 2 (-1 : Int32)) 3 (-1 : Int32)))) 670 (.inl (7, [.ref 671, .int 0, .ref 672, .ref 673, .int 0, .ref 674, .int 0, .ref 675, .int 0, .int 0, .int 0, .int 0, .ref 676, .ref 677, .ref 678, .ref 679, .ref 680, .ref 681, .ref 682, .int 0, .ref 683, .ref 684, .ref 685, .ref 686, .ref 687, .int 0, .ref 688, .int 0, .int 0, .ref 689, .ref 690, .ref 691, .ref 692]))) 689 (zI32 6 (upd (upd (upd (upd (upd zZ0 0 (-1 : Int32)) 1 (-1 : Int32)) 2 (-1 : Int32)) 3 (-1 : Int32)) 4 (-1 : Int32)))) ?_ d_Model_init_196 (fun H locs hI => ?_)
  · exact zS32_of (by simp (disch := omega) only [zup_ne, zup_eq, i_Huts_init_ne, i_Orders_init_ne, i_Acts_init_ne, i_Run_init_ne, i_Shelf_init_ne]) (by omega) (by omega)
  replace hI := b_sw (K2 := 693) (by omega) hI rfl
  refine lv_iinc (v := (nI 5)) (lv' := [(1, .int (nI 5)), (0, .ref (G.1 670))]) hx hb d_Model_init_197 hl (k := 0) rfl (by decide) (by decide) rfl (fun ls hl => ?_)
  refine lv_goto (tgt := 184) hx hb d_Model_init_200 (by decide) ?_
  refine lv_iload_n hx hb d_Model_init_184 rfl (lv_at hl 0 rfl) ?_
  refine lv_bipush (v := (nI 6)) hx hb d_Model_init_185 (by decide) ?_
  refine lv_icmp_ge (tgt := 203) hx hb d_Model_init_187 (by decide) (fun hc => absurd hc (by decide)) (fun hc => ?_)
  refine lv_aload_n hx hb d_Model_init_190 rfl (lv_at hl 1 rfl) ?_
  refine b_getR X (a := 670) hI (zup_eq _ _ _) F_Model_65 (x := 689) rfl d_Model_init_191 ?_
  refine lv_iload_n hx hb d_Model_init_194 rfl (lv_at hl 0 rfl) ?_
  refine lv_iconst (v := (-1 : Int32)) hx hb d_Model_init_195 (by decide) ?_
  refine z_iast X hI (h' := zup (zup (zup (zup (zup (zup (zup (zup (zup (zup (zup (zup (zup (zup (zup (zup (zup (zup (zup (zup (zup (zup (zup (zup (zup (zup (zup (zup (zup h 671 (zI32 60 zZ0)) 672 (zI32 360 zZ0)) 673 (zI32 6 zZ0)) 674 (zI32 10 zZ0)) 675 (zI32 91 zZ0)) 676 (zI32 364 zZ0)) 677 (zI32 4 zZ0)) 678 (zI32 4 zZ0)) 679 (zI32 4 zZ0)) 680 (zI32 4 zZ0)) 681 (zI32 4 zZ0)) 682 (zI32 4 zZ0)) 683 (zI32 13741 zZ0)) 684 (zI32 151 zZ0)) 685 (zI32 151 zZ0)) 686 (zI1 151 zZ0)) 687 (zI1 22801 zZ0)) 688 (zI32 24 zZ0)) 689 (zI32 6 zZ0)) 690 (zI32 6 zZ0)) 691 (zI64 360 zJ0)) 692 (zI64 60 zJ0)) 689 (zI32 6 (upd zZ0 0 (-1 : Int32)))) 689 (zI32 6 (upd (upd zZ0 0 (-1 : Int32)) 1 (-1 : Int32)))) 689 (zI32 6 (upd (upd (upd zZ0 0 (-1 : Int32)) 1 (-1 : Int32)) 2 (-1 : Int32)))) 689 (zI32 6 (upd (upd (upd (upd zZ0 0 (-1 : Int32)) 1 (-1 : Int32)) 2 (-1 : Int32)) 3 (-1 : Int32)))) 689 (zI32 6 (upd (upd (upd (upd (upd zZ0 0 (-1 : Int32)) 1 (-1 : Int32)) 2 (-1 : Int32)) 3 (-1 : Int32)) 4 (-1 : Int32)))) 670 (.inl (7, [.ref 671, .int 0, .ref 672, .ref 673, .int 0, .ref 674, .int 0, .ref 675, .int 0, .int 0, .int 0, .int 0, .ref 676, .ref 677, .ref 678, .ref 679, .ref 680, .ref 681, .ref 682, .int 0, .ref 683, .ref 684, .ref 685, .ref 686, .ref 687, .int 0, .ref 688, .int 0, .int 0, .ref 689, .ref 690, .ref 691, .ref 692]))) 689 (zI32 6 (upd (upd (upd (upd (upd (upd zZ0 0 (-1 : Int32)) 1 (-1 : Int32)) 2 (-1 : Int32)) 3 (-1 : Int32)) 4 (-1 : Int32)) 5 (-1 : Int32)))) ?_ d_Model_init_196 (fun H locs hI => ?_)
  · exact zS32_of (by simp (disch := omega) only [zup_ne, zup_eq, i_Huts_init_ne, i_Orders_init_ne, i_Acts_init_ne, i_Run_init_ne, i_Shelf_init_ne]) (by omega) (by omega)
  replace hI := b_sw (K2 := 693) (by omega) hI rfl
  refine lv_iinc (v := (nI 6)) (lv' := [(1, .int (nI 6)), (0, .ref (G.1 670))]) hx hb d_Model_init_197 hl (k := 0) rfl (by decide) (by decide) rfl (fun ls hl => ?_)
  refine lv_goto (tgt := 184) hx hb d_Model_init_200 (by decide) ?_
  refine lv_iload_n hx hb d_Model_init_184 rfl (lv_at hl 0 rfl) ?_
  refine lv_bipush (v := (nI 6)) hx hb d_Model_init_185 (by decide) ?_
  refine lv_icmp_ge (tgt := 203) hx hb d_Model_init_187 (by decide) (fun hc => ?_) (fun hc => absurd hc (by decide))
  have hI : zI G 693 s (bA S0) H locs (i_Model_init h) := hI
  exact b_vret X hI hG ⟨by have := hz.1; omega, by omega⟩ d_Model_init_203
