-- walk of AllHome$Rules.comeNote
theorem d_Rules_comeNote_0 : decode prog_5_method_15_code 0 = .ok (.aload_n 1, 1) := by decide +kernel
theorem d_Rules_comeNote_1 : decode prog_5_method_15_code 1 = .ok (.bipush 43, 2) := by decide +kernel
theorem d_Rules_comeNote_3 : decode prog_5_method_15_code 3 = .ok (.iload_n 2, 1) := by decide +kernel
theorem d_Rules_comeNote_4 : decode prog_5_method_15_code 4 = .ok (.invokestatic 84, 3) := by decide +kernel
theorem d_Rules_comeNote_7 : decode prog_5_method_15_code 7 = .ok (.ifCond .ne 6, 3) := by decide +kernel
theorem d_Rules_comeNote_10 : decode prog_5_method_15_code 10 = .ok (.bipush (-5), 2) := by decide +kernel
theorem d_Rules_comeNote_12 : decode prog_5_method_15_code 12 = .ok (.ireturn, 1) := by decide +kernel
theorem d_Rules_comeNote_13 : decode prog_5_method_15_code 13 = .ok (.aload_n 1, 1) := by decide +kernel
theorem d_Rules_comeNote_14 : decode prog_5_method_15_code 14 = .ok (.bipush 44, 2) := by decide +kernel
theorem d_Rules_comeNote_16 : decode prog_5_method_15_code 16 = .ok (.iload_n 2, 1) := by decide +kernel
theorem d_Rules_comeNote_17 : decode prog_5_method_15_code 17 = .ok (.iadd, 1) := by decide +kernel
theorem d_Rules_comeNote_18 : decode prog_5_method_15_code 18 = .ok (.iaload, 1) := by decide +kernel
theorem d_Rules_comeNote_19 : decode prog_5_method_15_code 19 = .ok (.istore_n 3, 1) := by decide +kernel
theorem d_Rules_comeNote_20 : decode prog_5_method_15_code 20 = .ok (.aload_n 1, 1) := by decide +kernel
theorem d_Rules_comeNote_21 : decode prog_5_method_15_code 21 = .ok (.bipush 52, 2) := by decide +kernel
theorem d_Rules_comeNote_23 : decode prog_5_method_15_code 23 = .ok (.iload_n 2, 1) := by decide +kernel
theorem d_Rules_comeNote_24 : decode prog_5_method_15_code 24 = .ok (.iadd, 1) := by decide +kernel
theorem d_Rules_comeNote_25 : decode prog_5_method_15_code 25 = .ok (.iaload, 1) := by decide +kernel
theorem d_Rules_comeNote_26 : decode prog_5_method_15_code 26 = .ok (.istore 4, 2) := by decide +kernel
theorem d_Rules_comeNote_28 : decode prog_5_method_15_code 28 = .ok (.aload_n 1, 1) := by decide +kernel
theorem d_Rules_comeNote_29 : decode prog_5_method_15_code 29 = .ok (.bipush 60, 2) := by decide +kernel
theorem d_Rules_comeNote_31 : decode prog_5_method_15_code 31 = .ok (.iload_n 2, 1) := by decide +kernel
theorem d_Rules_comeNote_32 : decode prog_5_method_15_code 32 = .ok (.iadd, 1) := by decide +kernel
theorem d_Rules_comeNote_33 : decode prog_5_method_15_code 33 = .ok (.iaload, 1) := by decide +kernel
theorem d_Rules_comeNote_34 : decode prog_5_method_15_code 34 = .ok (.istore 5, 2) := by decide +kernel
theorem d_Rules_comeNote_36 : decode prog_5_method_15_code 36 = .ok (.aload_n 0, 1) := by decide +kernel
theorem d_Rules_comeNote_37 : decode prog_5_method_15_code 37 = .ok (.getfield 9, 3) := by decide +kernel
theorem d_Rules_comeNote_40 : decode prog_5_method_15_code 40 = .ok (.iload_n 3, 1) := by decide +kernel
theorem d_Rules_comeNote_41 : decode prog_5_method_15_code 41 = .ok (.invokevirtual 60, 3) := by decide +kernel
theorem d_Rules_comeNote_44 : decode prog_5_method_15_code 44 = .ok (.ifCond .eq 20, 3) := by decide +kernel
theorem d_Rules_comeNote_47 : decode prog_5_method_15_code 47 = .ok (.aload_n 0, 1) := by decide +kernel
theorem d_Rules_comeNote_48 : decode prog_5_method_15_code 48 = .ok (.getfield 15, 3) := by decide +kernel
theorem d_Rules_comeNote_51 : decode prog_5_method_15_code 51 = .ok (.iconst 4, 1) := by decide +kernel
theorem d_Rules_comeNote_52 : decode prog_5_method_15_code 52 = .ok (.if_icmp .ne 15, 3) := by decide +kernel
theorem d_Rules_comeNote_55 : decode prog_5_method_15_code 55 = .ok (.aload_n 1, 1) := by decide +kernel
theorem d_Rules_comeNote_56 : decode prog_5_method_15_code 56 = .ok (.iconst 0, 1) := by decide +kernel
theorem d_Rules_comeNote_57 : decode prog_5_method_15_code 57 = .ok (.iload_n 3, 1) := by decide +kernel
theorem d_Rules_comeNote_58 : decode prog_5_method_15_code 58 = .ok (.iadd, 1) := by decide +kernel
theorem d_Rules_comeNote_59 : decode prog_5_method_15_code 59 = .ok (.iaload, 1) := by decide +kernel
theorem d_Rules_comeNote_60 : decode prog_5_method_15_code 60 = .ok (.iconst 1, 1) := by decide +kernel
theorem d_Rules_comeNote_61 : decode prog_5_method_15_code 61 = .ok (.if_icmp .ne 6, 3) := by decide +kernel
theorem d_Rules_comeNote_64 : decode prog_5_method_15_code 64 = .ok (.bipush (-5), 2) := by decide +kernel
theorem d_Rules_comeNote_66 : decode prog_5_method_15_code 66 = .ok (.ireturn, 1) := by decide +kernel
theorem d_Rules_comeNote_67 : decode prog_5_method_15_code 67 = .ok (.aload_n 1, 1) := by decide +kernel
theorem d_Rules_comeNote_68 : decode prog_5_method_15_code 68 = .ok (.bipush 43, 2) := by decide +kernel
theorem d_Rules_comeNote_70 : decode prog_5_method_15_code 70 = .ok (.dup2, 1) := by decide +kernel
theorem d_Rules_comeNote_71 : decode prog_5_method_15_code 71 = .ok (.iaload, 1) := by decide +kernel
theorem d_Rules_comeNote_72 : decode prog_5_method_15_code 72 = .ok (.iconst 1, 1) := by decide +kernel
theorem d_Rules_comeNote_73 : decode prog_5_method_15_code 73 = .ok (.isub, 1) := by decide +kernel
theorem d_Rules_comeNote_74 : decode prog_5_method_15_code 74 = .ok (.iastore, 1) := by decide +kernel
theorem d_Rules_comeNote_75 : decode prog_5_method_15_code 75 = .ok (.aload_n 1, 1) := by decide +kernel
theorem d_Rules_comeNote_76 : decode prog_5_method_15_code 76 = .ok (.bipush 44, 2) := by decide +kernel
theorem d_Rules_comeNote_78 : decode prog_5_method_15_code 78 = .ok (.iload_n 2, 1) := by decide +kernel
theorem d_Rules_comeNote_79 : decode prog_5_method_15_code 79 = .ok (.invokestatic 94, 3) := by decide +kernel
theorem d_Rules_comeNote_82 : decode prog_5_method_15_code 82 = .ok (.aload_n 1, 1) := by decide +kernel
theorem d_Rules_comeNote_83 : decode prog_5_method_15_code 83 = .ok (.bipush 52, 2) := by decide +kernel
theorem d_Rules_comeNote_85 : decode prog_5_method_15_code 85 = .ok (.iload_n 2, 1) := by decide +kernel
theorem d_Rules_comeNote_86 : decode prog_5_method_15_code 86 = .ok (.invokestatic 94, 3) := by decide +kernel
theorem d_Rules_comeNote_89 : decode prog_5_method_15_code 89 = .ok (.aload_n 1, 1) := by decide +kernel
theorem d_Rules_comeNote_90 : decode prog_5_method_15_code 90 = .ok (.bipush 60, 2) := by decide +kernel
theorem d_Rules_comeNote_92 : decode prog_5_method_15_code 92 = .ok (.iload_n 2, 1) := by decide +kernel
theorem d_Rules_comeNote_93 : decode prog_5_method_15_code 93 = .ok (.invokestatic 94, 3) := by decide +kernel
theorem d_Rules_comeNote_96 : decode prog_5_method_15_code 96 = .ok (.aload_n 0, 1) := by decide +kernel
theorem d_Rules_comeNote_97 : decode prog_5_method_15_code 97 = .ok (.getfield 15, 3) := by decide +kernel
theorem d_Rules_comeNote_100 : decode prog_5_method_15_code 100 = .ok (.tableswitch 82 1 5 #[36, 49, 82, 61, 71], 36) := by decide +kernel
theorem d_Rules_comeNote_136 : decode prog_5_method_15_code 136 = .ok (.aload_n 1, 1) := by decide +kernel
theorem d_Rules_comeNote_137 : decode prog_5_method_15_code 137 = .ok (.bipush 68, 2) := by decide +kernel
theorem d_Rules_comeNote_139 : decode prog_5_method_15_code 139 = .ok (.iload_n 3, 1) := by decide +kernel
theorem d_Rules_comeNote_140 : decode prog_5_method_15_code 140 = .ok (.iadd, 1) := by decide +kernel
theorem d_Rules_comeNote_141 : decode prog_5_method_15_code 141 = .ok (.dup2, 1) := by decide +kernel
theorem d_Rules_comeNote_142 : decode prog_5_method_15_code 142 = .ok (.iaload, 1) := by decide +kernel
theorem d_Rules_comeNote_143 : decode prog_5_method_15_code 143 = .ok (.iload 4, 2) := by decide +kernel
theorem d_Rules_comeNote_145 : decode prog_5_method_15_code 145 = .ok (.iadd, 1) := by decide +kernel
theorem d_Rules_comeNote_146 : decode prog_5_method_15_code 146 = .ok (.iastore, 1) := by decide +kernel
theorem d_Rules_comeNote_147 : decode prog_5_method_15_code 147 = .ok (.iconst 1, 1) := by decide +kernel
theorem d_Rules_comeNote_148 : decode prog_5_method_15_code 148 = .ok (.ireturn, 1) := by decide +kernel
theorem d_Rules_comeNote_149 : decode prog_5_method_15_code 149 = .ok (.aload_n 1, 1) := by decide +kernel
theorem d_Rules_comeNote_150 : decode prog_5_method_15_code 150 = .ok (.bipush 75, 2) := by decide +kernel
theorem d_Rules_comeNote_152 : decode prog_5_method_15_code 152 = .ok (.iload_n 3, 1) := by decide +kernel
theorem d_Rules_comeNote_153 : decode prog_5_method_15_code 153 = .ok (.iadd, 1) := by decide +kernel
theorem d_Rules_comeNote_154 : decode prog_5_method_15_code 154 = .ok (.dup2, 1) := by decide +kernel
theorem d_Rules_comeNote_155 : decode prog_5_method_15_code 155 = .ok (.iaload, 1) := by decide +kernel
theorem d_Rules_comeNote_156 : decode prog_5_method_15_code 156 = .ok (.iconst 1, 1) := by decide +kernel
theorem d_Rules_comeNote_157 : decode prog_5_method_15_code 157 = .ok (.isub, 1) := by decide +kernel
theorem d_Rules_comeNote_158 : decode prog_5_method_15_code 158 = .ok (.iastore, 1) := by decide +kernel
theorem d_Rules_comeNote_159 : decode prog_5_method_15_code 159 = .ok (.iconst 1, 1) := by decide +kernel
theorem d_Rules_comeNote_160 : decode prog_5_method_15_code 160 = .ok (.ireturn, 1) := by decide +kernel
theorem d_Rules_comeNote_161 : decode prog_5_method_15_code 161 = .ok (.aload_n 1, 1) := by decide +kernel
theorem d_Rules_comeNote_162 : decode prog_5_method_15_code 162 = .ok (.iload_n 3, 1) := by decide +kernel
theorem d_Rules_comeNote_163 : decode prog_5_method_15_code 163 = .ok (.iload 4, 2) := by decide +kernel
theorem d_Rules_comeNote_165 : decode prog_5_method_15_code 165 = .ok (.iload 5, 2) := by decide +kernel
theorem d_Rules_comeNote_167 : decode prog_5_method_15_code 167 = .ok (.invokestatic 98, 3) := by decide +kernel
theorem d_Rules_comeNote_170 : decode prog_5_method_15_code 170 = .ok (.ireturn, 1) := by decide +kernel
theorem d_Rules_comeNote_171 : decode prog_5_method_15_code 171 = .ok (.aload_n 0, 1) := by decide +kernel
theorem d_Rules_comeNote_172 : decode prog_5_method_15_code 172 = .ok (.aload_n 1, 1) := by decide +kernel
theorem d_Rules_comeNote_173 : decode prog_5_method_15_code 173 = .ok (.iload_n 3, 1) := by decide +kernel
theorem d_Rules_comeNote_174 : decode prog_5_method_15_code 174 = .ok (.iload 4, 2) := by decide +kernel
theorem d_Rules_comeNote_176 : decode prog_5_method_15_code 176 = .ok (.iload 5, 2) := by decide +kernel
theorem d_Rules_comeNote_178 : decode prog_5_method_15_code 178 = .ok (.invokevirtual 101, 3) := by decide +kernel
theorem d_Rules_comeNote_181 : decode prog_5_method_15_code 181 = .ok (.ireturn, 1) := by decide +kernel
theorem d_Rules_comeNote_182 : decode prog_5_method_15_code 182 = .ok (.iconst 1, 1) := by decide +kernel
theorem d_Rules_comeNote_183 : decode prog_5_method_15_code 183 = .ok (.ireturn, 1) := by decide +kernel
set_option maxHeartbeats 4000000 in
set_option maxRecDepth 100000 in
theorem r_Rules_comeNote_67 {p : Program} {l : Launch} {e : Env} {s : State} {m : MethodId} {args : Array Value} {below : List Frame} {meth : Method} {c : Code} {G : zG} {K : Nat} (X : zX p s m args meth c "AllHome$Rules" prog_5_method_15_code 6 (some .int) G (zA G K)) {r : Int32} {h' : zH} (a0 : Nat) (a1 : Nat) (x2 : Int32) (x3 : Int32) (x4 : Int32) (x5 : Int32) (h : zH) (hm : g_Rules_comeNote_67 a0 a1 x2 x3 x4 x5 h = some (r, h')) {H : Heap} {locs : List Loc} {ls : Array Slot} (hI : zI G K s (zA G K) H locs h) (hl : lv_has ls 6 [(0, .ref (G.1 a0)), (1, .ref (G.1 a1)), (2, .int x2), (3, .int x3), (4, .int x4), (5, .int x5)]) : W p l e (zR 2) s m args below meth c H locs 0 0 (MQ below (zQi G K r h') args s 0 0 (zA G K)) (F0 m 67 ls []) := by
  obtain ⟨hx, hb, hml, hown, hts, hr, hlocks, hK, hST, hNs⟩ := id X
  unfold g_Rules_comeNote_67 at hm
  refine lv_aload_n hx hb d_Rules_comeNote_67 rfl (lv_at hl 1 rfl) ?_
  refine lv_bipush (v := (nI 43)) hx hb d_Rules_comeNote_68 (by decide) ?_
  refine lv_dup2_11 hx hb d_Rules_comeNote_70 rfl rfl ?_
  obtain ⟨v71, hv, hm⟩ := zbd hm
  refine z_iald X hI hv d_Rules_comeNote_71 ?_
  refine lv_iconst (v := (nI 1)) hx hb d_Rules_comeNote_72 (by decide) ?_
  refine lv_isub hx hb d_Rules_comeNote_73 ?_
  obtain ⟨h74, hv, hm⟩ := zbd hm
  refine z_iast X hI hv d_Rules_comeNote_74 (fun H locs hI => ?_)
  refine lv_aload_n hx hb d_Rules_comeNote_75 rfl (lv_at hl 1 rfl) ?_
  refine lv_bipush (v := (nI 44)) hx hb d_Rules_comeNote_76 (by decide) ?_
  refine lv_iload_n hx hb d_Rules_comeNote_78 rfl (lv_at hl 2 rfl) ?_
  obtain ⟨h79, hv, hm⟩ := zbd hm
  refine z_cv hI (z_runS (As := [.ref (G.1 a1), .int (nI 44), .int x2]) (rest := []) X hI hl.1 (c_Rules_closeGap l G K a1 (nI 44) x2 h74 _ hv) C_Rules_94 rfl (Nat.le_of_ble_eq_true rfl) ⟨Nat.le_of_ble_eq_true rfl, Nat.le_of_ble_eq_true rfl, Nat.zero_le _, Nat.zero_le _⟩ rfl d_Rules_comeNote_79) (fun H locs hI => ?_)
  refine lv_aload_n hx hb d_Rules_comeNote_82 rfl (lv_at hl 1 rfl) ?_
  refine lv_bipush (v := (nI 52)) hx hb d_Rules_comeNote_83 (by decide) ?_
  refine lv_iload_n hx hb d_Rules_comeNote_85 rfl (lv_at hl 2 rfl) ?_
  obtain ⟨h86, hv, hm⟩ := zbd hm
  refine z_cv hI (z_runS (As := [.ref (G.1 a1), .int (nI 52), .int x2]) (rest := []) X hI hl.1 (c_Rules_closeGap l G K a1 (nI 52) x2 h79 _ hv) C_Rules_94 rfl (Nat.le_of_ble_eq_true rfl) ⟨Nat.le_of_ble_eq_true rfl, Nat.le_of_ble_eq_true rfl, Nat.zero_le _, Nat.zero_le _⟩ rfl d_Rules_comeNote_86) (fun H locs hI => ?_)
  refine lv_aload_n hx hb d_Rules_comeNote_89 rfl (lv_at hl 1 rfl) ?_
  refine lv_bipush (v := (nI 60)) hx hb d_Rules_comeNote_90 (by decide) ?_
  refine lv_iload_n hx hb d_Rules_comeNote_92 rfl (lv_at hl 2 rfl) ?_
  obtain ⟨h93, hv, hm⟩ := zbd hm
  refine z_cv hI (z_runS (As := [.ref (G.1 a1), .int (nI 60), .int x2]) (rest := []) X hI hl.1 (c_Rules_closeGap l G K a1 (nI 60) x2 h86 _ hv) C_Rules_94 rfl (Nat.le_of_ble_eq_true rfl) ⟨Nat.le_of_ble_eq_true rfl, Nat.le_of_ble_eq_true rfl, Nat.zero_le _, Nat.zero_le _⟩ rfl d_Rules_comeNote_93) (fun H locs hI => ?_)
  refine lv_aload_n hx hb d_Rules_comeNote_96 rfl (lv_at hl 0 rfl) ?_
  obtain ⟨v97, hv, hm⟩ := zbd hm
  refine z_getI X hI F_Rules_15 hv d_Rules_comeNote_97 ?_
  by_cases hs100_0 : v97 = (nI 1)
  · replace hm := zif_t hs100_0 hm
    refine lv_tableIn (off := 36) (tgt := 136) hx hb d_Rules_comeNote_100 (by rw [hs100_0]; decide) (by rw [hs100_0]; decide) (by rw [hs100_0]; rfl) (by decide) ?_
    refine lv_aload_n hx hb d_Rules_comeNote_136 rfl (lv_at hl 1 rfl) ?_
    refine lv_bipush (v := (nI 68)) hx hb d_Rules_comeNote_137 (by decide) ?_
    refine lv_iload_n hx hb d_Rules_comeNote_139 rfl (lv_at hl 3 rfl) ?_
    refine lv_iadd hx hb d_Rules_comeNote_140 ?_
    refine lv_dup2_11 hx hb d_Rules_comeNote_141 rfl rfl ?_
    obtain ⟨v142, hv, hm⟩ := zbd hm
    refine z_iald X hI hv d_Rules_comeNote_142 ?_
    refine lv_iload hx hb d_Rules_comeNote_143 (lv_at hl 4 rfl) ?_
    refine lv_iadd hx hb d_Rules_comeNote_145 ?_
    obtain ⟨h146, hv, hm⟩ := zbd hm
    refine z_iast X hI hv d_Rules_comeNote_146 (fun H locs hI => ?_)
    refine lv_iconst (v := (nI 1)) hx hb d_Rules_comeNote_147 (by decide) ?_
    obtain ⟨rfl, rfl⟩ := zs2 hm
    exact z_iret X hI d_Rules_comeNote_148
  · replace hm := zif_f hs100_0 hm
    by_cases hs100_1 : v97 = (nI 2)
    · replace hm := zif_t hs100_1 hm
      refine lv_tableIn (off := 49) (tgt := 149) hx hb d_Rules_comeNote_100 (by rw [hs100_1]; decide) (by rw [hs100_1]; decide) (by rw [hs100_1]; rfl) (by decide) ?_
      refine lv_aload_n hx hb d_Rules_comeNote_149 rfl (lv_at hl 1 rfl) ?_
      refine lv_bipush (v := (nI 75)) hx hb d_Rules_comeNote_150 (by decide) ?_
      refine lv_iload_n hx hb d_Rules_comeNote_152 rfl (lv_at hl 3 rfl) ?_
      refine lv_iadd hx hb d_Rules_comeNote_153 ?_
      refine lv_dup2_11 hx hb d_Rules_comeNote_154 rfl rfl ?_
      obtain ⟨v155, hv, hm⟩ := zbd hm
      refine z_iald X hI hv d_Rules_comeNote_155 ?_
      refine lv_iconst (v := (nI 1)) hx hb d_Rules_comeNote_156 (by decide) ?_
      refine lv_isub hx hb d_Rules_comeNote_157 ?_
      obtain ⟨h158, hv, hm⟩ := zbd hm
      refine z_iast X hI hv d_Rules_comeNote_158 (fun H locs hI => ?_)
      refine lv_iconst (v := (nI 1)) hx hb d_Rules_comeNote_159 (by decide) ?_
      obtain ⟨rfl, rfl⟩ := zs2 hm
      exact z_iret X hI d_Rules_comeNote_160
    · replace hm := zif_f hs100_1 hm
      by_cases hs100_2 : v97 = (nI 3)
      · replace hm := zif_t hs100_2 hm
        refine lv_tableIn (off := 82) (tgt := 182) hx hb d_Rules_comeNote_100 (by rw [hs100_2]; decide) (by rw [hs100_2]; decide) (by rw [hs100_2]; rfl) (by decide) ?_
        refine lv_iconst (v := (nI 1)) hx hb d_Rules_comeNote_182 (by decide) ?_
        obtain ⟨rfl, rfl⟩ := zs2 hm
        exact z_iret X hI d_Rules_comeNote_183
      · replace hm := zif_f hs100_2 hm
        by_cases hs100_3 : v97 = (nI 4)
        · replace hm := zif_t hs100_3 hm
          refine lv_tableIn (off := 61) (tgt := 161) hx hb d_Rules_comeNote_100 (by rw [hs100_3]; decide) (by rw [hs100_3]; decide) (by rw [hs100_3]; rfl) (by decide) ?_
          refine lv_aload_n hx hb d_Rules_comeNote_161 rfl (lv_at hl 1 rfl) ?_
          refine lv_iload_n hx hb d_Rules_comeNote_162 rfl (lv_at hl 3 rfl) ?_
          refine lv_iload hx hb d_Rules_comeNote_163 (lv_at hl 4 rfl) ?_
          refine lv_iload hx hb d_Rules_comeNote_165 (lv_at hl 5 rfl) ?_
          obtain ⟨v167, h167, hv, hm⟩ := zb2_at hm
          refine z_ci hI (z_runS (As := [.ref (G.1 a1), .int x3, .int x4, .int x5]) (rest := []) X hI hl.1 (c_Rules_takeStone l G K a1 x3 x4 x5 h93 _ _ hv) C_Rules_98 rfl (Nat.le_of_ble_eq_true rfl) ⟨Nat.le_of_ble_eq_true rfl, Nat.le_of_ble_eq_true rfl, Nat.zero_le _, Nat.zero_le _⟩ rfl d_Rules_comeNote_167) (fun H locs hI => ?_)
          obtain ⟨rfl, rfl⟩ := zs2 hm
          exact z_iret X hI d_Rules_comeNote_170
        · replace hm := zif_f hs100_3 hm
          by_cases hs100_4 : v97 = (nI 5)
          · replace hm := zif_t hs100_4 hm
            refine lv_tableIn (off := 71) (tgt := 171) hx hb d_Rules_comeNote_100 (by rw [hs100_4]; decide) (by rw [hs100_4]; decide) (by rw [hs100_4]; rfl) (by decide) ?_
            refine lv_aload_n hx hb d_Rules_comeNote_171 rfl (lv_at hl 0 rfl) ?_
            refine lv_aload_n hx hb d_Rules_comeNote_172 rfl (lv_at hl 1 rfl) ?_
            refine lv_iload_n hx hb d_Rules_comeNote_173 rfl (lv_at hl 3 rfl) ?_
            refine lv_iload hx hb d_Rules_comeNote_174 (lv_at hl 4 rfl) ?_
            refine lv_iload hx hb d_Rules_comeNote_176 (lv_at hl 5 rfl) ?_
            obtain ⟨v178, h178, hv, hm⟩ := zb2_at hm
            obtain ⟨hq, hv⟩ := zcv_at hv
            refine z_ci hI (z_runV (As := [.ref (G.1 a1), .int x3, .int x4, .int x5]) (rest := []) X hI hl.1 (c_Rules_takeSums l G K a0 a1 x3 x4 x5 h93 _ _ hv) C_Rules_101 rfl hq (Nat.le_of_ble_eq_true rfl) ⟨Nat.le_of_ble_eq_true rfl, Nat.le_of_ble_eq_true rfl, Nat.zero_le _, Nat.zero_le _⟩ rfl d_Rules_comeNote_178) (fun H locs hI => ?_)
            obtain ⟨rfl, rfl⟩ := zs2 hm
            exact z_iret X hI d_Rules_comeNote_181
          · replace hm := zif_f hs100_4 hm
            have he0 : (v97).toInt ≠ 1 := fun q => hs100_0 (Int32.toInt_inj.mp (q.trans (by decide)))
            have he1 : (v97).toInt ≠ 2 := fun q => hs100_1 (Int32.toInt_inj.mp (q.trans (by decide)))
            have he2 : (v97).toInt ≠ 3 := fun q => hs100_2 (Int32.toInt_inj.mp (q.trans (by decide)))
            have he3 : (v97).toInt ≠ 4 := fun q => hs100_3 (Int32.toInt_inj.mp (q.trans (by decide)))
            have he4 : (v97).toInt ≠ 5 := fun q => hs100_4 (Int32.toInt_inj.mp (q.trans (by decide)))
            refine lv_tableOut (tgt := 182) hx hb d_Rules_comeNote_100 (by omega) (by decide) ?_
            refine lv_iconst (v := (nI 1)) hx hb d_Rules_comeNote_182 (by decide) ?_
            obtain ⟨rfl, rfl⟩ := zs2 hm
            exact z_iret X hI d_Rules_comeNote_183
set_option maxHeartbeats 4000000 in
set_option maxRecDepth 100000 in
theorem r_Rules_comeNote_0 {p : Program} {l : Launch} {e : Env} {s : State} {m : MethodId} {args : Array Value} {below : List Frame} {meth : Method} {c : Code} {G : zG} {K : Nat} (X : zX p s m args meth c "AllHome$Rules" prog_5_method_15_code 6 (some .int) G (zA G K)) {r : Int32} {h' : zH} (a0 : Nat) (a1 : Nat) (x2 : Int32) (h : zH) (hm : m_Rules_comeNote a0 a1 x2 h = some (r, h')) {H : Heap} {locs : List Loc} {ls : Array Slot} (hI : zI G K s (zA G K) H locs h) (hl : lv_has ls 6 [(0, .ref (G.1 a0)), (1, .ref (G.1 a1)), (2, .int x2)]) : W p l e (zR 2) s m args below meth c H locs 0 0 (MQ below (zQi G K r h') args s 0 0 (zA G K)) (F0 m 0 ls []) := by
  obtain ⟨hx, hb, hml, hown, hts, hr, hlocks, hK, hST, hNs⟩ := id X
  unfold m_Rules_comeNote at hm
  refine lv_aload_n hx hb d_Rules_comeNote_0 rfl (lv_at hl 1 rfl) ?_
  refine lv_bipush (v := (nI 43)) hx hb d_Rules_comeNote_1 (by decide) ?_
  refine lv_iload_n hx hb d_Rules_comeNote_3 rfl (lv_at hl 2 rfl) ?_
  obtain ⟨v4, hv, hm⟩ := zbd hm
  refine z_ci hI (z_runS (As := [.ref (G.1 a1), .int (nI 43), .int x2]) (rest := []) X hI hl.1 (c_Rules_isOnTheWay l G K a1 (nI 43) x2 h _ hv) C_Rules_84 rfl (Nat.le_of_ble_eq_true rfl) ⟨Nat.le_of_ble_eq_true rfl, Nat.le_of_ble_eq_true rfl, Nat.zero_le _, Nat.zero_le _⟩ rfl d_Rules_comeNote_4) (fun H locs hI => ?_)
  refine lv_if_ne (tgt := 13) hx hb d_Rules_comeNote_7 (by decide) (fun hc7 => ?_) (fun hc7 => ?_)
  · replace hm := zif_f hc7 hm
    refine lv_aload_n hx hb d_Rules_comeNote_13 rfl (lv_at hl 1 rfl) ?_
    refine lv_bipush (v := (nI 44)) hx hb d_Rules_comeNote_14 (by decide) ?_
    refine lv_iload_n hx hb d_Rules_comeNote_16 rfl (lv_at hl 2 rfl) ?_
    refine lv_iadd hx hb d_Rules_comeNote_17 ?_
    obtain ⟨v18, hv, hm⟩ := zbd hm
    refine z_iald X hI hv d_Rules_comeNote_18 ?_
    refine lv_istore_n (lv' := [(3, .int v18), (0, .ref (G.1 a0)), (1, .ref (G.1 a1)), (2, .int x2)]) hx hb d_Rules_comeNote_19 rfl hl (by decide) rfl (fun ls hl => ?_)
    refine lv_aload_n hx hb d_Rules_comeNote_20 rfl (lv_at hl 2 rfl) ?_
    refine lv_bipush (v := (nI 52)) hx hb d_Rules_comeNote_21 (by decide) ?_
    refine lv_iload_n hx hb d_Rules_comeNote_23 rfl (lv_at hl 3 rfl) ?_
    refine lv_iadd hx hb d_Rules_comeNote_24 ?_
    obtain ⟨v25, hv, hm⟩ := zbd hm
    refine z_iald X hI hv d_Rules_comeNote_25 ?_
    refine lv_istore (lv' := [(4, .int v25), (3, .int v18), (0, .ref (G.1 a0)), (1, .ref (G.1 a1)), (2, .int x2)]) hx hb d_Rules_comeNote_26 hl (by decide) rfl (fun ls hl => ?_)
    refine lv_aload_n hx hb d_Rules_comeNote_28 rfl (lv_at hl 3 rfl) ?_
    refine lv_bipush (v := (nI 60)) hx hb d_Rules_comeNote_29 (by decide) ?_
    refine lv_iload_n hx hb d_Rules_comeNote_31 rfl (lv_at hl 4 rfl) ?_
    refine lv_iadd hx hb d_Rules_comeNote_32 ?_
    obtain ⟨v33, hv, hm⟩ := zbd hm
    refine z_iald X hI hv d_Rules_comeNote_33 ?_
    refine lv_istore (lv' := [(5, .int v33), (4, .int v25), (3, .int v18), (0, .ref (G.1 a0)), (1, .ref (G.1 a1)), (2, .int x2)]) hx hb d_Rules_comeNote_34 hl (by decide) rfl (fun ls hl => ?_)
    refine lv_aload_n hx hb d_Rules_comeNote_36 rfl (lv_at hl 3 rfl) ?_
    obtain ⟨v37, hv, hm⟩ := zbd hm
    refine z_getR X hI F_Rules_9 hv d_Rules_comeNote_37 ?_
    refine lv_iload_n hx hb d_Rules_comeNote_40 rfl (lv_at hl 2 rfl) ?_
    obtain ⟨v41, hv, hm⟩ := zbd hm
    obtain ⟨hq, hv⟩ := zcv_at hv
    refine z_ci hI (z_runV (As := [.int v18]) (rest := []) X hI hl.1 (c_Huts_has l G K v37 v18 h _ hv) C_Rules_60 rfl hq (Nat.le_of_ble_eq_true rfl) ⟨Nat.le_of_ble_eq_true rfl, Nat.le_of_ble_eq_true rfl, Nat.zero_le _, Nat.zero_le _⟩ rfl d_Rules_comeNote_41) (fun H locs hI => ?_)
    refine lv_if_eq (tgt := 64) hx hb d_Rules_comeNote_44 (by decide) (fun hc44 => ?_) (fun hc44 => ?_)
    · replace hm := zif_t hc44 hm
      refine lv_bipush (v := (-5 : Int32)) hx hb d_Rules_comeNote_64 (by decide) ?_
      obtain ⟨rfl, rfl⟩ := zs2 hm
      exact z_iret X hI d_Rules_comeNote_66
    · replace hm := zif_f hc44 hm
      refine lv_aload_n hx hb d_Rules_comeNote_47 rfl (lv_at hl 3 rfl) ?_
      obtain ⟨v48, hv, hm⟩ := zbd hm
      refine z_getI X hI F_Rules_15 hv d_Rules_comeNote_48 ?_
      refine lv_iconst (v := (nI 4)) hx hb d_Rules_comeNote_51 (by decide) ?_
      refine lv_icmp_ne (tgt := 67) hx hb d_Rules_comeNote_52 (by decide) (fun hc52 => ?_) (fun hc52 => ?_)
      · replace hm := zif_f hc52 hm
        exact r_Rules_comeNote_67 X a0 a1 x2 v18 v25 v33 h hm hI (lv_sub hl [3, 4, 5, 2, 1, 0] rfl)
      · replace hm := zif_t hc52 hm
        refine lv_aload_n hx hb d_Rules_comeNote_55 rfl (lv_at hl 4 rfl) ?_
        refine lv_iconst (v := (nI 0)) hx hb d_Rules_comeNote_56 (by decide) ?_
        refine lv_iload_n hx hb d_Rules_comeNote_57 rfl (lv_at hl 2 rfl) ?_
        refine lv_iadd hx hb d_Rules_comeNote_58 ?_
        obtain ⟨v59, hv, hm⟩ := zbd hm
        refine z_iald X hI hv d_Rules_comeNote_59 ?_
        refine lv_iconst (v := (nI 1)) hx hb d_Rules_comeNote_60 (by decide) ?_
        refine lv_icmp_ne (tgt := 67) hx hb d_Rules_comeNote_61 (by decide) (fun hc61 => ?_) (fun hc61 => ?_)
        · replace hm := zif_f hc61 hm
          exact r_Rules_comeNote_67 X a0 a1 x2 v18 v25 v33 h hm hI (lv_sub hl [3, 4, 5, 2, 1, 0] rfl)
        · replace hm := zif_t hc61 hm
          refine lv_bipush (v := (-5 : Int32)) hx hb d_Rules_comeNote_64 (by decide) ?_
          obtain ⟨rfl, rfl⟩ := zs2 hm
          exact z_iret X hI d_Rules_comeNote_66
  · replace hm := zif_t hc7 hm
    refine lv_bipush (v := (-5 : Int32)) hx hb d_Rules_comeNote_10 (by decide) ?_
    obtain ⟨rfl, rfl⟩ := zs2 hm
    exact z_iret X hI d_Rules_comeNote_12
set_option maxHeartbeats 4000000 in
set_option maxRecDepth 100000 in
theorem c_Rules_comeNote (l : Launch) (G : zG) (K : Nat) (a0 : Nat) (a1 : Nat) (x2 : Int32) (h : zH) (r : Int32) (h' : zH) (hm : m_Rules_comeNote a0 a1 x2 h = some (r, h')) : zMi l G K y_Rules_comeNote prog_5_method_15_code 6 2 [.ref (G.1 a0), .ref (G.1 a1), .int x2] h r h' := zMet (by decide +kernel) (Nat.le_of_ble_eq_true rfl) (fun p e s m below meth c ls X hI hl => r_Rules_comeNote_0 X a0 a1 x2 h hm hI hl)
-- walk of AllHome.isUnder
theorem d_Home_isUnder_0 : decode prog_1_method_33_code 0 = .ok (.iload_n 0, 1) := by decide +kernel
theorem d_Home_isUnder_1 : decode prog_1_method_33_code 1 = .ok (.istore_n 2, 1) := by decide +kernel
theorem d_Home_isUnder_2 : decode prog_1_method_33_code 2 = .ok (.iconst 0, 1) := by decide +kernel
theorem d_Home_isUnder_3 : decode prog_1_method_33_code 3 = .ok (.istore_n 3, 1) := by decide +kernel
theorem d_Home_isUnder_4 : decode prog_1_method_33_code 4 = .ok (.iload_n 3, 1) := by decide +kernel
theorem d_Home_isUnder_5 : decode prog_1_method_33_code 5 = .ok (.bipush 9, 2) := by decide +kernel
theorem d_Home_isUnder_7 : decode prog_1_method_33_code 7 = .ok (.if_icmp .ge 29, 3) := by decide +kernel
theorem d_Home_isUnder_10 : decode prog_1_method_33_code 10 = .ok (.iload_n 2, 1) := by decide +kernel
theorem d_Home_isUnder_11 : decode prog_1_method_33_code 11 = .ok (.invokestatic 93, 3) := by decide +kernel
theorem d_Home_isUnder_14 : decode prog_1_method_33_code 14 = .ok (.ifCond .eq 22, 3) := by decide +kernel
theorem d_Home_isUnder_17 : decode prog_1_method_33_code 17 = .ok (.iload_n 2, 1) := by decide +kernel
theorem d_Home_isUnder_18 : decode prog_1_method_33_code 18 = .ok (.iload_n 1, 1) := by decide +kernel
theorem d_Home_isUnder_19 : decode prog_1_method_33_code 19 = .ok (.if_icmp .ne 5, 3) := by decide +kernel
theorem d_Home_isUnder_22 : decode prog_1_method_33_code 22 = .ok (.iconst 1, 1) := by decide +kernel
theorem d_Home_isUnder_23 : decode prog_1_method_33_code 23 = .ok (.ireturn, 1) := by decide +kernel
theorem d_Home_isUnder_24 : decode prog_1_method_33_code 24 = .ok (.getstatic 224, 3) := by decide +kernel
theorem d_Home_isUnder_27 : decode prog_1_method_33_code 27 = .ok (.iload_n 2, 1) := by decide +kernel
theorem d_Home_isUnder_28 : decode prog_1_method_33_code 28 = .ok (.iaload, 1) := by decide +kernel
theorem d_Home_isUnder_29 : decode prog_1_method_33_code 29 = .ok (.istore_n 2, 1) := by decide +kernel
theorem d_Home_isUnder_30 : decode prog_1_method_33_code 30 = .ok (.iinc 3 1, 3) := by decide +kernel
theorem d_Home_isUnder_33 : decode prog_1_method_33_code 33 = .ok (.goto (-29), 3) := by decide +kernel
theorem d_Home_isUnder_36 : decode prog_1_method_33_code 36 = .ok (.iconst 0, 1) := by decide +kernel
theorem d_Home_isUnder_37 : decode prog_1_method_33_code 37 = .ok (.ireturn, 1) := by decide +kernel
set_option maxHeartbeats 4000000 in
set_option maxRecDepth 100000 in
theorem r_Home_isUnder_4_b {p : Program} {l : Launch} {e : Env} {s : State} {m : MethodId} {args : Array Value} {below : List Frame} {meth : Method} {c : Code} {G : zG} {K : Nat} (X : zX p s m args meth c "AllHome" prog_1_method_33_code 4 (some .boolean) G (zA G K)) {r : Int32} (x1 : Int32) (h : zH) (k4 : (Int32 × Int32) → Option Int32) (hk4 : ∀ (w : Int32 × Int32), k4 w = some r → ∀ (H : Heap) (locs : List Loc) (ls : Array Slot), zI G K s (zA G K) H locs h → lv_has ls 4 [(1, .int x1), (2, .int w.1), (3, .int w.2)] → W p l e (zR 1) s m args below meth c H locs 0 0 (MQ below (zQi G K r h) args s 0 0 (zA G K)) (F0 m 4 ls [])) (u : Int32 × Int32) (hm : g_Home_isUnder_4 x1 h k4 u = some r) {H : Heap} {locs : List Loc} {ls : Array Slot} (hI : zI G K s (zA G K) H locs h) (hl : lv_has ls 4 [(1, .int x1), (2, .int u.1), (3, .int u.2)]) : W p l e (zR 1) s m args below meth c H locs 0 0 (MQ below (zQi G K r h) args s 0 0 (zA G K)) (F0 m 4 ls []) := by
  obtain ⟨hx, hb, hml, hown, hts, hr, hlocks, hK, hST, hNs⟩ := id X
  unfold g_Home_isUnder_4 at hm
  refine lv_iload_n hx hb d_Home_isUnder_4 rfl (lv_at hl 2 rfl) ?_
  refine lv_bipush (v := (nI 9)) hx hb d_Home_isUnder_5 (by decide) ?_
  refine lv_icmp_ge (tgt := 36) hx hb d_Home_isUnder_7 (by decide) (fun hc7 => ?_) (fun hc7 => ?_)
  · replace hm := zif_t hc7 hm
    refine lv_iconst (v := (nI 0)) hx hb d_Home_isUnder_36 (by decide) ?_
    obtain rfl := zs1 hm
    exact z_zret X hI (by decide) d_Home_isUnder_37
  · replace hm := zif_f hc7 hm
    refine lv_iload_n hx hb d_Home_isUnder_10 rfl (lv_at hl 1 rfl) ?_
    obtain ⟨v11, hv, hm⟩ := zbd hm
    refine z_ci hI (z_runS (As := [.int u.1]) (rest := []) X hI hl.1 (c_Home_isKind l G K u.1 h _ hv) C_Home_93 rfl (Nat.le_of_ble_eq_true rfl) ⟨Nat.le_of_ble_eq_true rfl, Nat.le_of_ble_eq_true rfl, Nat.zero_le _, Nat.zero_le _⟩ rfl d_Home_isUnder_11) (fun H locs hI => ?_)
    refine lv_if_eq (tgt := 36) hx hb d_Home_isUnder_14 (by decide) (fun hc14 => ?_) (fun hc14 => ?_)
    · replace hm := zif_t hc14 hm
      refine lv_iconst (v := (nI 0)) hx hb d_Home_isUnder_36 (by decide) ?_
      obtain rfl := zs1 hm
      exact z_zret X hI (by decide) d_Home_isUnder_37
    · replace hm := zif_f hc14 hm
      refine lv_iload_n hx hb d_Home_isUnder_17 rfl (lv_at hl 1 rfl) ?_
      refine lv_iload_n hx hb d_Home_isUnder_18 rfl (lv_at hl 0 rfl) ?_
      refine lv_icmp_ne (tgt := 24) hx hb d_Home_isUnder_19 (by decide) (fun hc19 => ?_) (fun hc19 => ?_)
      · replace hm := zif_f hc19 hm
        refine z_gets X hI 0 (by decide) kw370 d_Home_isUnder_24 ?_
        refine lv_iload_n hx hb d_Home_isUnder_27 rfl (lv_at hl 1 rfl) ?_
        obtain ⟨v28, hv, hm⟩ := zbd hm
        refine z_tab X hI 0 (by decide) hv d_Home_isUnder_28 ?_
        refine lv_istore_n (lv' := [(2, .int v28), (1, .int x1), (3, .int u.2)]) hx hb d_Home_isUnder_29 rfl hl (by decide) rfl (fun ls hl => ?_)
        refine lv_iinc (v := (u.2 + (nI 1))) (lv' := [(3, .int (u.2 + (nI 1))), (2, .int v28), (1, .int x1)]) hx hb d_Home_isUnder_30 hl (k := 2) rfl (congrArg (fun z => u.2 + z) (show Int32.ofInt (1) = (nI 1) by decide)) (by decide) rfl (fun ls hl => ?_)
        refine lv_goto (tgt := 4) hx hb d_Home_isUnder_33 (by decide) ?_
        obtain ⟨g1, e1⟩ : ∃ z, z = (u.2 + (nI 1)) := ⟨_, rfl⟩
        rw [← e1] at hm hl
        exact hk4 (v28, g1) hm _ _ _ hI (lv_sub hl [2, 1, 0] rfl)
      · replace hm := zif_t hc19 hm
        refine lv_iconst (v := (nI 1)) hx hb d_Home_isUnder_22 (by decide) ?_
        obtain rfl := zs1 hm
        exact z_zret X hI (by decide) d_Home_isUnder_23
theorem r_Home_isUnder_4 {p : Program} {l : Launch} {e : Env} {s : State} {m : MethodId} {args : Array Value} {below : List Frame} {meth : Method} {c : Code} {G : zG} {K : Nat} (X : zX p s m args meth c "AllHome" prog_1_method_33_code 4 (some .boolean) G (zA G K)) {r : Int32} (x1 : Int32) (h : zH) : ∀ (n : Nat) (w : Int32 × Int32), zloop (g_Home_isUnder_4 x1 h) n w = some r → ∀ (H : Heap) (locs : List Loc) (ls : Array Slot), zI G K s (zA G K) H locs h → lv_has ls 4 [(1, .int x1), (2, .int w.1), (3, .int w.2)] → W p l e (zR 1) s m args below meth c H locs 0 0 (MQ below (zQi G K r h) args s 0 0 (zA G K)) (F0 m 4 ls []) := by
  intro n
  induction n with
  | zero => intro w hm; cases hm
  | succ n ih => intro w hm H locs ls hI hl; exact r_Home_isUnder_4_b X x1 h (zloop (g_Home_isUnder_4 x1 h) n) ih w (zls hm) hI hl
set_option maxHeartbeats 4000000 in
set_option maxRecDepth 100000 in
theorem r_Home_isUnder_0 {p : Program} {l : Launch} {e : Env} {s : State} {m : MethodId} {args : Array Value} {below : List Frame} {meth : Method} {c : Code} {G : zG} {K : Nat} (X : zX p s m args meth c "AllHome" prog_1_method_33_code 4 (some .boolean) G (zA G K)) {r : Int32} (x0 : Int32) (x1 : Int32) (h : zH) (hm : m_Home_isUnder x0 x1 h = some r) {H : Heap} {locs : List Loc} {ls : Array Slot} (hI : zI G K s (zA G K) H locs h) (hl : lv_has ls 4 [(0, .int x0), (1, .int x1)]) : W p l e (zR 1) s m args below meth c H locs 0 0 (MQ below (zQi G K r h) args s 0 0 (zA G K)) (F0 m 0 ls []) := by
  obtain ⟨hx, hb, hml, hown, hts, hr, hlocks, hK, hST, hNs⟩ := id X
  unfold m_Home_isUnder at hm
  refine lv_iload_n hx hb d_Home_isUnder_0 rfl (lv_at hl 0 rfl) ?_
  refine lv_istore_n (lv' := [(2, .int x0), (0, .int x0), (1, .int x1)]) hx hb d_Home_isUnder_1 rfl hl (by decide) rfl (fun ls hl => ?_)
  refine lv_iconst (v := (nI 0)) hx hb d_Home_isUnder_2 (by decide) ?_
  refine lv_istore_n (lv' := [(3, .int (nI 0)), (2, .int x0), (0, .int x0), (1, .int x1)]) hx hb d_Home_isUnder_3 rfl hl (by decide) rfl (fun ls hl => ?_)
  exact r_Home_isUnder_4 X x1 h zN (x0, (nI 0)) hm _ _ _ hI (lv_sub hl [3, 1, 0] rfl)
set_option maxHeartbeats 4000000 in
set_option maxRecDepth 100000 in
theorem c_Home_isUnder (l : Launch) (G : zG) (K : Nat) (x0 : Int32) (x1 : Int32) (h : zH) (r : Int32) (hm : m_Home_isUnder x0 x1 h = some r) : zMz l G K y_Home_isUnder prog_1_method_33_code 4 1 [.int x0, .int x1] h r h := zMet (by decide +kernel) (Nat.le_of_ble_eq_true rfl) (fun p e s m below meth c ls X hI hl => r_Home_isUnder_0 X x0 x1 h hm hI hl)
-- walk of AllHome$Rules.ask
theorem d_Rules_ask_0 : decode prog_5_method_18_code 0 = .ok (.iload_n 2, 1) := by decide +kernel
theorem d_Rules_ask_1 : decode prog_5_method_18_code 1 = .ok (.ifCond .ne 28, 3) := by decide +kernel
theorem d_Rules_ask_4 : decode prog_5_method_18_code 4 = .ok (.aload_n 0, 1) := by decide +kernel
theorem d_Rules_ask_5 : decode prog_5_method_18_code 5 = .ok (.getfield 23, 3) := by decide +kernel
theorem d_Rules_ask_8 : decode prog_5_method_18_code 8 = .ok (.iconst 3, 1) := by decide +kernel
theorem d_Rules_ask_9 : decode prog_5_method_18_code 9 = .ok (.invokestatic 108, 3) := by decide +kernel
theorem d_Rules_ask_12 : decode prog_5_method_18_code 12 = .ok (.ifCond .eq 17, 3) := by decide +kernel
theorem d_Rules_ask_15 : decode prog_5_method_18_code 15 = .ok (.aload_n 1, 1) := by decide +kernel
theorem d_Rules_ask_16 : decode prog_5_method_18_code 16 = .ok (.bipush 43, 2) := by decide +kernel
theorem d_Rules_ask_18 : decode prog_5_method_18_code 18 = .ok (.iaload, 1) := by decide +kernel
theorem d_Rules_ask_19 : decode prog_5_method_18_code 19 = .ok (.ifCond .gt 10, 3) := by decide +kernel
theorem d_Rules_ask_22 : decode prog_5_method_18_code 22 = .ok (.aload_n 1, 1) := by decide +kernel
theorem d_Rules_ask_23 : decode prog_5_method_18_code 23 = .ok (.iconst 0, 1) := by decide +kernel
theorem d_Rules_ask_24 : decode prog_5_method_18_code 24 = .ok (.iaload, 1) := by decide +kernel
theorem d_Rules_ask_25 : decode prog_5_method_18_code 25 = .ok (.iconst 1, 1) := by decide +kernel
theorem d_Rules_ask_26 : decode prog_5_method_18_code 26 = .ok (.if_icmp .ne 6, 3) := by decide +kernel
theorem d_Rules_ask_29 : decode prog_5_method_18_code 29 = .ok (.bipush (-5), 2) := by decide +kernel
theorem d_Rules_ask_31 : decode prog_5_method_18_code 31 = .ok (.ireturn, 1) := by decide +kernel
theorem d_Rules_ask_32 : decode prog_5_method_18_code 32 = .ok (.aload_n 0, 1) := by decide +kernel
theorem d_Rules_ask_33 : decode prog_5_method_18_code 33 = .ok (.getfield 15, 3) := by decide +kernel
theorem d_Rules_ask_36 : decode prog_5_method_18_code 36 = .ok (.iconst 4, 1) := by decide +kernel
theorem d_Rules_ask_37 : decode prog_5_method_18_code 37 = .ok (.if_icmp .ne 24, 3) := by decide +kernel
theorem d_Rules_ask_40 : decode prog_5_method_18_code 40 = .ok (.aload_n 1, 1) := by decide +kernel
theorem d_Rules_ask_41 : decode prog_5_method_18_code 41 = .ok (.bipush 99, 2) := by decide +kernel
theorem d_Rules_ask_43 : decode prog_5_method_18_code 43 = .ok (.iconst 0, 1) := by decide +kernel
theorem d_Rules_ask_44 : decode prog_5_method_18_code 44 = .ok (.iastore, 1) := by decide +kernel
theorem d_Rules_ask_45 : decode prog_5_method_18_code 45 = .ok (.aload_n 1, 1) := by decide +kernel
theorem d_Rules_ask_46 : decode prog_5_method_18_code 46 = .ok (.aload_n 0, 1) := by decide +kernel
theorem d_Rules_ask_47 : decode prog_5_method_18_code 47 = .ok (.getfield 9, 3) := by decide +kernel
theorem d_Rules_ask_50 : decode prog_5_method_18_code 50 = .ok (.invokevirtual 104, 3) := by decide +kernel
theorem d_Rules_ask_53 : decode prog_5_method_18_code 53 = .ok (.iconst 1, 1) := by decide +kernel
theorem d_Rules_ask_54 : decode prog_5_method_18_code 54 = .ok (.isub, 1) := by decide +kernel
theorem d_Rules_ask_55 : decode prog_5_method_18_code 55 = .ok (.iconst 0, 1) := by decide +kernel
theorem d_Rules_ask_56 : decode prog_5_method_18_code 56 = .ok (.iconst 0, 1) := by decide +kernel
theorem d_Rules_ask_57 : decode prog_5_method_18_code 57 = .ok (.invokestatic 77, 3) := by decide +kernel
theorem d_Rules_ask_60 : decode prog_5_method_18_code 60 = .ok (.ireturn, 1) := by decide +kernel
theorem d_Rules_ask_61 : decode prog_5_method_18_code 61 = .ok (.aload_n 0, 1) := by decide +kernel
theorem d_Rules_ask_62 : decode prog_5_method_18_code 62 = .ok (.getfield 15, 3) := by decide +kernel
theorem d_Rules_ask_65 : decode prog_5_method_18_code 65 = .ok (.iconst 5, 1) := by decide +kernel
theorem d_Rules_ask_66 : decode prog_5_method_18_code 66 = .ok (.if_icmp .ne 32, 3) := by decide +kernel
theorem d_Rules_ask_69 : decode prog_5_method_18_code 69 = .ok (.aload_n 1, 1) := by decide +kernel
theorem d_Rules_ask_70 : decode prog_5_method_18_code 70 = .ok (.aload_n 0, 1) := by decide +kernel
theorem d_Rules_ask_71 : decode prog_5_method_18_code 71 = .ok (.getfield 9, 3) := by decide +kernel
theorem d_Rules_ask_74 : decode prog_5_method_18_code 74 = .ok (.invokevirtual 104, 3) := by decide +kernel
theorem d_Rules_ask_77 : decode prog_5_method_18_code 77 = .ok (.iconst 1, 1) := by decide +kernel
theorem d_Rules_ask_78 : decode prog_5_method_18_code 78 = .ok (.if_icmp .le 7, 3) := by decide +kernel
theorem d_Rules_ask_81 : decode prog_5_method_18_code 81 = .ok (.iconst 1, 1) := by decide +kernel
theorem d_Rules_ask_82 : decode prog_5_method_18_code 82 = .ok (.goto 4, 3) := by decide +kernel
theorem d_Rules_ask_85 : decode prog_5_method_18_code 85 = .ok (.iconst 0, 1) := by decide +kernel
theorem d_Rules_ask_86 : decode prog_5_method_18_code 86 = .ok (.aload_n 1, 1) := by decide +kernel
theorem d_Rules_ask_87 : decode prog_5_method_18_code 87 = .ok (.bipush 105, 2) := by decide +kernel
theorem d_Rules_ask_89 : decode prog_5_method_18_code 89 = .ok (.iaload, 1) := by decide +kernel
theorem d_Rules_ask_90 : decode prog_5_method_18_code 90 = .ok (.aload_n 1, 1) := by decide +kernel
theorem d_Rules_ask_91 : decode prog_5_method_18_code 91 = .ok (.bipush 111, 2) := by decide +kernel
theorem d_Rules_ask_93 : decode prog_5_method_18_code 93 = .ok (.iaload, 1) := by decide +kernel
theorem d_Rules_ask_94 : decode prog_5_method_18_code 94 = .ok (.invokestatic 77, 3) := by decide +kernel
theorem d_Rules_ask_97 : decode prog_5_method_18_code 97 = .ok (.ireturn, 1) := by decide +kernel
theorem d_Rules_ask_98 : decode prog_5_method_18_code 98 = .ok (.iconst 1, 1) := by decide +kernel
theorem d_Rules_ask_99 : decode prog_5_method_18_code 99 = .ok (.ireturn, 1) := by decide +kernel
set_option maxHeartbeats 4000000 in
set_option maxRecDepth 100000 in
theorem r_Rules_ask_0 {p : Program} {l : Launch} {e : Env} {s : State} {m : MethodId} {args : Array Value} {below : List Frame} {meth : Method} {c : Code} {G : zG} {K : Nat} (X : zX p s m args meth c "AllHome$Rules" prog_5_method_18_code 3 (some .int) G (zA G K)) {r : Int32} {h' : zH} (a0 : Nat) (a1 : Nat) (x2 : Int32) (h : zH) (hm : m_Rules_ask a0 a1 x2 h = some (r, h')) {H : Heap} {locs : List Loc} {ls : Array Slot} (hI : zI G K s (zA G K) H locs h) (hl : lv_has ls 3 [(0, .ref (G.1 a0)), (1, .ref (G.1 a1)), (2, .int x2)]) : W p l e (zR 2) s m args below meth c H locs 0 0 (MQ below (zQi G K r h') args s 0 0 (zA G K)) (F0 m 0 ls []) := by
  obtain ⟨hx, hb, hml, hown, hts, hr, hlocks, hK, hST, hNs⟩ := id X
  unfold m_Rules_ask at hm
  refine lv_iload_n hx hb d_Rules_ask_0 rfl (lv_at hl 2 rfl) ?_
  refine lv_if_ne (tgt := 29) hx hb d_Rules_ask_1 (by decide) (fun hc1 => ?_) (fun hc1 => ?_)
  · replace hm := zif_f hc1 hm
    refine lv_bipush (v := (-5 : Int32)) hx hb d_Rules_ask_29 (by decide) ?_
    obtain ⟨rfl, rfl⟩ := zs2 hm
    exact z_iret X hI d_Rules_ask_31
  · replace hm := zif_t hc1 hm
    refine lv_aload_n hx hb d_Rules_ask_4 rfl (lv_at hl 0 rfl) ?_
    obtain ⟨v5, hv, hm⟩ := zbd hm
    refine z_getI X hI F_Rules_23 hv d_Rules_ask_5 ?_
    refine lv_iconst (v := (nI 3)) hx hb d_Rules_ask_8 (by decide) ?_
    obtain ⟨v9, hv, hm⟩ := zbd hm
    refine z_ci hI (z_runN (As := [.int v5, .int (nI 3)]) (rest := []) X hI hl.1 (c_Home_isUnder l G K v5 (nI 3) h _ hv) C_Rules_108 rfl (Nat.le_of_ble_eq_true rfl) ⟨Nat.le_of_ble_eq_true rfl, Nat.le_of_ble_eq_true rfl, Nat.zero_le _, Nat.zero_le _⟩ rfl d_Rules_ask_9) (fun H locs hI => ?_)
    refine lv_if_eq (tgt := 29) hx hb d_Rules_ask_12 (by decide) (fun hc12 => ?_) (fun hc12 => ?_)
    · replace hm := zif_t hc12 hm
      refine lv_bipush (v := (-5 : Int32)) hx hb d_Rules_ask_29 (by decide) ?_
      obtain ⟨rfl, rfl⟩ := zs2 hm
      exact z_iret X hI d_Rules_ask_31
    · replace hm := zif_f hc12 hm
      refine lv_aload_n hx hb d_Rules_ask_15 rfl (lv_at hl 1 rfl) ?_
      refine lv_bipush (v := (nI 43)) hx hb d_Rules_ask_16 (by decide) ?_
      obtain ⟨v18, hv, hm⟩ := zbd hm
      refine z_iald X hI hv d_Rules_ask_18 ?_
      refine lv_if_gt (tgt := 29) hx hb d_Rules_ask_19 (by decide) (fun hc19 => ?_) (fun hc19 => ?_)
      · replace hm := zif_t hc19 hm
        refine lv_bipush (v := (-5 : Int32)) hx hb d_Rules_ask_29 (by decide) ?_
        obtain ⟨rfl, rfl⟩ := zs2 hm
        exact z_iret X hI d_Rules_ask_31
      · replace hm := zif_f hc19 hm
        refine lv_aload_n hx hb d_Rules_ask_22 rfl (lv_at hl 1 rfl) ?_
        refine lv_iconst (v := (nI 0)) hx hb d_Rules_ask_23 (by decide) ?_
        obtain ⟨v24, hv, hm⟩ := zbd hm
        refine z_iald X hI hv d_Rules_ask_24 ?_
        refine lv_iconst (v := (nI 1)) hx hb d_Rules_ask_25 (by decide) ?_
        refine lv_icmp_ne (tgt := 32) hx hb d_Rules_ask_26 (by decide) (fun hc26 => ?_) (fun hc26 => ?_)
        · replace hm := zif_f hc26 hm
          refine lv_aload_n hx hb d_Rules_ask_32 rfl (lv_at hl 0 rfl) ?_
          obtain ⟨v33, hv, hm⟩ := zbd hm
          refine z_getI X hI F_Rules_15 hv d_Rules_ask_33 ?_
          refine lv_iconst (v := (nI 4)) hx hb d_Rules_ask_36 (by decide) ?_
          refine lv_icmp_ne (tgt := 61) hx hb d_Rules_ask_37 (by decide) (fun hc37 => ?_) (fun hc37 => ?_)
          · replace hm := zif_f hc37 hm
            refine lv_aload_n hx hb d_Rules_ask_61 rfl (lv_at hl 0 rfl) ?_
            obtain ⟨v62, hv, hm⟩ := zbd hm
            refine z_getI X hI F_Rules_15 hv d_Rules_ask_62 ?_
            refine lv_iconst (v := (nI 5)) hx hb d_Rules_ask_65 (by decide) ?_
            refine lv_icmp_ne (tgt := 98) hx hb d_Rules_ask_66 (by decide) (fun hc66 => ?_) (fun hc66 => ?_)
            · replace hm := zif_f hc66 hm
              refine lv_iconst (v := (nI 1)) hx hb d_Rules_ask_98 (by decide) ?_
              obtain ⟨rfl, rfl⟩ := zs2 hm
              exact z_iret X hI d_Rules_ask_99
            · replace hm := zif_t hc66 hm
              refine lv_aload_n hx hb d_Rules_ask_69 rfl (lv_at hl 1 rfl) ?_
              refine lv_aload_n hx hb d_Rules_ask_70 rfl (lv_at hl 0 rfl) ?_
              obtain ⟨v71, hv, hm⟩ := zbd hm
              refine z_getR X hI F_Rules_9 hv d_Rules_ask_71 ?_
              obtain ⟨v74, hv, hm⟩ := zbd hm
              obtain ⟨hq, hv⟩ := zcv_at hv
              refine z_ci hI (z_runV (As := []) (rest := [.ref (G.1 a1)]) X hI hl.1 (c_Huts_size l G K v71 h _ hv) C_Rules_104 rfl hq (Nat.le_of_ble_eq_true rfl) ⟨Nat.le_of_ble_eq_true rfl, Nat.le_of_ble_eq_true rfl, Nat.zero_le _, Nat.zero_le _⟩ rfl d_Rules_ask_74) (fun H locs hI => ?_)
              refine lv_iconst (v := (nI 1)) hx hb d_Rules_ask_77 (by decide) ?_
              refine lv_icmp_le (tgt := 85) hx hb d_Rules_ask_78 (by decide) (fun hc78 => ?_) (fun hc78 => ?_)
              · replace hm := zif_t hc78 hm
                refine lv_iconst (v := (nI 0)) hx hb d_Rules_ask_85 (by decide) ?_
                refine lv_aload_n hx hb d_Rules_ask_86 rfl (lv_at hl 1 rfl) ?_
                refine lv_bipush (v := (nI 105)) hx hb d_Rules_ask_87 (by decide) ?_
                obtain ⟨v89, hv, hm⟩ := zbd hm
                refine z_iald X hI hv d_Rules_ask_89 ?_
                refine lv_aload_n hx hb d_Rules_ask_90 rfl (lv_at hl 1 rfl) ?_
                refine lv_bipush (v := (nI 111)) hx hb d_Rules_ask_91 (by decide) ?_
                obtain ⟨v93, hv, hm⟩ := zbd hm
                refine z_iald X hI hv d_Rules_ask_93 ?_
                obtain ⟨v94, h94, hv, hm⟩ := zb2_at hm
                refine z_ci hI (z_runS (As := [.ref (G.1 a1), .int (nI 0), .int v89, .int v93]) (rest := []) X hI hl.1 (c_Rules_sendNote l G K a1 (nI 0) v89 v93 h _ _ hv) C_Rules_77 rfl (Nat.le_of_ble_eq_true rfl) ⟨Nat.le_of_ble_eq_true rfl, Nat.le_of_ble_eq_true rfl, Nat.zero_le _, Nat.zero_le _⟩ rfl d_Rules_ask_94) (fun H locs hI => ?_)
                obtain ⟨rfl, rfl⟩ := zs2 hm
                exact z_iret X hI d_Rules_ask_97
              · replace hm := zif_f hc78 hm
                refine lv_iconst (v := (nI 1)) hx hb d_Rules_ask_81 (by decide) ?_
                refine lv_goto (tgt := 86) hx hb d_Rules_ask_82 (by decide) ?_
                refine lv_aload_n hx hb d_Rules_ask_86 rfl (lv_at hl 1 rfl) ?_
                refine lv_bipush (v := (nI 105)) hx hb d_Rules_ask_87 (by decide) ?_
                obtain ⟨v89, hv, hm⟩ := zbd hm
                refine z_iald X hI hv d_Rules_ask_89 ?_
                refine lv_aload_n hx hb d_Rules_ask_90 rfl (lv_at hl 1 rfl) ?_
                refine lv_bipush (v := (nI 111)) hx hb d_Rules_ask_91 (by decide) ?_
                obtain ⟨v93, hv, hm⟩ := zbd hm
                refine z_iald X hI hv d_Rules_ask_93 ?_
                obtain ⟨v94, h94, hv, hm⟩ := zb2_at hm
                refine z_ci hI (z_runS (As := [.ref (G.1 a1), .int (nI 1), .int v89, .int v93]) (rest := []) X hI hl.1 (c_Rules_sendNote l G K a1 (nI 1) v89 v93 h _ _ hv) C_Rules_77 rfl (Nat.le_of_ble_eq_true rfl) ⟨Nat.le_of_ble_eq_true rfl, Nat.le_of_ble_eq_true rfl, Nat.zero_le _, Nat.zero_le _⟩ rfl d_Rules_ask_94) (fun H locs hI => ?_)
                obtain ⟨rfl, rfl⟩ := zs2 hm
                exact z_iret X hI d_Rules_ask_97
          · replace hm := zif_t hc37 hm
            refine lv_aload_n hx hb d_Rules_ask_40 rfl (lv_at hl 1 rfl) ?_
            refine lv_bipush (v := (nI 99)) hx hb d_Rules_ask_41 (by decide) ?_
            refine lv_iconst (v := (nI 0)) hx hb d_Rules_ask_43 (by decide) ?_
            obtain ⟨h44, hv, hm⟩ := zbd hm
            refine z_iast X hI hv d_Rules_ask_44 (fun H locs hI => ?_)
            refine lv_aload_n hx hb d_Rules_ask_45 rfl (lv_at hl 1 rfl) ?_
            refine lv_aload_n hx hb d_Rules_ask_46 rfl (lv_at hl 0 rfl) ?_
            obtain ⟨v47, hv, hm⟩ := zbd hm
            refine z_getR X hI F_Rules_9 hv d_Rules_ask_47 ?_
            obtain ⟨v50, hv, hm⟩ := zbd hm
            obtain ⟨hq, hv⟩ := zcv_at hv
            refine z_ci hI (z_runV (As := []) (rest := [.ref (G.1 a1)]) X hI hl.1 (c_Huts_size l G K v47 h44 _ hv) C_Rules_104 rfl hq (Nat.le_of_ble_eq_true rfl) ⟨Nat.le_of_ble_eq_true rfl, Nat.le_of_ble_eq_true rfl, Nat.zero_le _, Nat.zero_le _⟩ rfl d_Rules_ask_50) (fun H locs hI => ?_)
            refine lv_iconst (v := (nI 1)) hx hb d_Rules_ask_53 (by decide) ?_
            refine lv_isub hx hb d_Rules_ask_54 ?_
            refine lv_iconst (v := (nI 0)) hx hb d_Rules_ask_55 (by decide) ?_
            refine lv_iconst (v := (nI 0)) hx hb d_Rules_ask_56 (by decide) ?_
            obtain ⟨v57, h57, hv, hm⟩ := zb2_at hm
            refine z_ci hI (z_runS (As := [.ref (G.1 a1), .int (v50 - (nI 1)), .int (nI 0), .int (nI 0)]) (rest := []) X hI hl.1 (c_Rules_sendNote l G K a1 (v50 - (nI 1)) (nI 0) (nI 0) h44 _ _ hv) C_Rules_77 rfl (Nat.le_of_ble_eq_true rfl) ⟨Nat.le_of_ble_eq_true rfl, Nat.le_of_ble_eq_true rfl, Nat.zero_le _, Nat.zero_le _⟩ rfl d_Rules_ask_57) (fun H locs hI => ?_)
            obtain ⟨rfl, rfl⟩ := zs2 hm
            exact z_iret X hI d_Rules_ask_60
        · replace hm := zif_t hc26 hm
          refine lv_bipush (v := (-5 : Int32)) hx hb d_Rules_ask_29 (by decide) ?_
          obtain ⟨rfl, rfl⟩ := zs2 hm
          exact z_iret X hI d_Rules_ask_31
set_option maxHeartbeats 4000000 in
set_option maxRecDepth 100000 in
theorem c_Rules_ask (l : Launch) (G : zG) (K : Nat) (a0 : Nat) (a1 : Nat) (x2 : Int32) (h : zH) (r : Int32) (h' : zH) (hm : m_Rules_ask a0 a1 x2 h = some (r, h')) : zMi l G K y_Rules_ask prog_5_method_18_code 3 2 [.ref (G.1 a0), .ref (G.1 a1), .int x2] h r h' := zMet (by decide +kernel) (Nat.le_of_ble_eq_true rfl) (fun p e s m below meth c ls X hI hl => r_Rules_ask_0 X a0 a1 x2 h hm hI hl)
-- walk of AllHome$Rules.lose
theorem d_Rules_lose_0 : decode prog_5_method_12_code 0 = .ok (.aload_n 0, 1) := by decide +kernel
theorem d_Rules_lose_1 : decode prog_5_method_12_code 1 = .ok (.bipush 18, 2) := by decide +kernel
theorem d_Rules_lose_3 : decode prog_5_method_12_code 3 = .ok (.iload_n 1, 1) := by decide +kernel
theorem d_Rules_lose_4 : decode prog_5_method_12_code 4 = .ok (.invokestatic 84, 3) := by decide +kernel
theorem d_Rules_lose_7 : decode prog_5_method_12_code 7 = .ok (.ifCond .ne 6, 3) := by decide +kernel
theorem d_Rules_lose_10 : decode prog_5_method_12_code 10 = .ok (.bipush (-5), 2) := by decide +kernel
theorem d_Rules_lose_12 : decode prog_5_method_12_code 12 = .ok (.ireturn, 1) := by decide +kernel
theorem d_Rules_lose_13 : decode prog_5_method_12_code 13 = .ok (.aload_n 0, 1) := by decide +kernel
theorem d_Rules_lose_14 : decode prog_5_method_12_code 14 = .ok (.iload_n 1, 1) := by decide +kernel
theorem d_Rules_lose_15 : decode prog_5_method_12_code 15 = .ok (.invokestatic 88, 3) := by decide +kernel
theorem d_Rules_lose_18 : decode prog_5_method_12_code 18 = .ok (.iconst 1, 1) := by decide +kernel
theorem d_Rules_lose_19 : decode prog_5_method_12_code 19 = .ok (.ireturn, 1) := by decide +kernel
set_option maxHeartbeats 4000000 in
set_option maxRecDepth 100000 in
theorem r_Rules_lose_0 {p : Program} {l : Launch} {e : Env} {s : State} {m : MethodId} {args : Array Value} {below : List Frame} {meth : Method} {c : Code} {G : zG} {K : Nat} (X : zX p s m args meth c "AllHome$Rules" prog_5_method_12_code 2 (some .int) G (zA G K)) {r : Int32} {h' : zH} (a0 : Nat) (x1 : Int32) (h : zH) (hm : m_Rules_lose a0 x1 h = some (r, h')) {H : Heap} {locs : List Loc} {ls : Array Slot} (hI : zI G K s (zA G K) H locs h) (hl : lv_has ls 2 [(0, .ref (G.1 a0)), (1, .int x1)]) : W p l e (zR 2) s m args below meth c H locs 0 0 (MQ below (zQi G K r h') args s 0 0 (zA G K)) (F0 m 0 ls []) := by
  obtain ⟨hx, hb, hml, hown, hts, hr, hlocks, hK, hST, hNs⟩ := id X
  unfold m_Rules_lose at hm
  refine lv_aload_n hx hb d_Rules_lose_0 rfl (lv_at hl 0 rfl) ?_
  refine lv_bipush (v := (nI 18)) hx hb d_Rules_lose_1 (by decide) ?_
  refine lv_iload_n hx hb d_Rules_lose_3 rfl (lv_at hl 1 rfl) ?_
  obtain ⟨v4, hv, hm⟩ := zbd hm
  refine z_ci hI (z_runS (As := [.ref (G.1 a0), .int (nI 18), .int x1]) (rest := []) X hI hl.1 (c_Rules_isOnTheWay l G K a0 (nI 18) x1 h _ hv) C_Rules_84 rfl (Nat.le_of_ble_eq_true rfl) ⟨Nat.le_of_ble_eq_true rfl, Nat.le_of_ble_eq_true rfl, Nat.zero_le _, Nat.zero_le _⟩ rfl d_Rules_lose_4) (fun H locs hI => ?_)
  refine lv_if_ne (tgt := 13) hx hb d_Rules_lose_7 (by decide) (fun hc7 => ?_) (fun hc7 => ?_)
  · replace hm := zif_f hc7 hm
    refine lv_aload_n hx hb d_Rules_lose_13 rfl (lv_at hl 0 rfl) ?_
    refine lv_iload_n hx hb d_Rules_lose_14 rfl (lv_at hl 1 rfl) ?_
    obtain ⟨h15, hv, hm⟩ := zbd hm
    refine z_cv hI (z_runS (As := [.ref (G.1 a0), .int x1]) (rest := []) X hI hl.1 (c_Rules_takeAwayWord l G K a0 x1 h _ hv) C_Rules_88 rfl (Nat.le_of_ble_eq_true rfl) ⟨Nat.le_of_ble_eq_true rfl, Nat.le_of_ble_eq_true rfl, Nat.zero_le _, Nat.zero_le _⟩ rfl d_Rules_lose_15) (fun H locs hI => ?_)
    refine lv_iconst (v := (nI 1)) hx hb d_Rules_lose_18 (by decide) ?_
    obtain ⟨rfl, rfl⟩ := zs2 hm
    exact z_iret X hI d_Rules_lose_19
  · replace hm := zif_t hc7 hm
    refine lv_bipush (v := (-5 : Int32)) hx hb d_Rules_lose_10 (by decide) ?_
    obtain ⟨rfl, rfl⟩ := zs2 hm
    exact z_iret X hI d_Rules_lose_12
set_option maxHeartbeats 4000000 in
set_option maxRecDepth 100000 in
theorem c_Rules_lose (l : Launch) (G : zG) (K : Nat) (a0 : Nat) (x1 : Int32) (h : zH) (r : Int32) (h' : zH) (hm : m_Rules_lose a0 x1 h = some (r, h')) : zMi l G K y_Rules_lose prog_5_method_12_code 2 2 [.ref (G.1 a0), .int x1] h r h' := zMet (by decide +kernel) (Nat.le_of_ble_eq_true rfl) (fun p e s m below meth c ls X hI hl => r_Rules_lose_0 X a0 x1 h hm hI hl)
-- walk of AllHome$Rules.leaveTree
theorem d_Rules_leaveTree_0 : decode prog_5_method_19_code 0 = .ok (.iconst 1, 1) := by decide +kernel
theorem d_Rules_leaveTree_1 : decode prog_5_method_19_code 1 = .ok (.istore_n 2, 1) := by decide +kernel
theorem d_Rules_leaveTree_2 : decode prog_5_method_19_code 2 = .ok (.iconst 1, 1) := by decide +kernel
theorem d_Rules_leaveTree_3 : decode prog_5_method_19_code 3 = .ok (.istore_n 3, 1) := by decide +kernel
theorem d_Rules_leaveTree_4 : decode prog_5_method_19_code 4 = .ok (.iload_n 3, 1) := by decide +kernel
theorem d_Rules_leaveTree_5 : decode prog_5_method_19_code 5 = .ok (.aload_n 0, 1) := by decide +kernel
theorem d_Rules_leaveTree_6 : decode prog_5_method_19_code 6 = .ok (.getfield 9, 3) := by decide +kernel
theorem d_Rules_leaveTree_9 : decode prog_5_method_19_code 9 = .ok (.invokevirtual 104, 3) := by decide +kernel
theorem d_Rules_leaveTree_12 : decode prog_5_method_19_code 12 = .ok (.if_icmp .ge 89, 3) := by decide +kernel
theorem d_Rules_leaveTree_15 : decode prog_5_method_19_code 15 = .ok (.iload_n 2, 1) := by decide +kernel
theorem d_Rules_leaveTree_16 : decode prog_5_method_19_code 16 = .ok (.iconst 1, 1) := by decide +kernel
theorem d_Rules_leaveTree_17 : decode prog_5_method_19_code 17 = .ok (.if_icmp .ne 84, 3) := by decide +kernel
theorem d_Rules_leaveTree_20 : decode prog_5_method_19_code 20 = .ok (.aload_n 0, 1) := by decide +kernel
theorem d_Rules_leaveTree_21 : decode prog_5_method_19_code 21 = .ok (.getfield 23, 3) := by decide +kernel
theorem d_Rules_leaveTree_24 : decode prog_5_method_19_code 24 = .ok (.bipush 6, 2) := by decide +kernel
theorem d_Rules_leaveTree_26 : decode prog_5_method_19_code 26 = .ok (.if_icmp .eq 12, 3) := by decide +kernel
theorem d_Rules_leaveTree_29 : decode prog_5_method_19_code 29 = .ok (.aload_n 1, 1) := by decide +kernel
theorem d_Rules_leaveTree_30 : decode prog_5_method_19_code 30 = .ok (.bipush 75, 2) := by decide +kernel
theorem d_Rules_leaveTree_32 : decode prog_5_method_19_code 32 = .ok (.iload_n 3, 1) := by decide +kernel
theorem d_Rules_leaveTree_33 : decode prog_5_method_19_code 33 = .ok (.iadd, 1) := by decide +kernel
theorem d_Rules_leaveTree_34 : decode prog_5_method_19_code 34 = .ok (.iaload, 1) := by decide +kernel
theorem d_Rules_leaveTree_35 : decode prog_5_method_19_code 35 = .ok (.ifCond .ne 7, 3) := by decide +kernel
theorem d_Rules_leaveTree_38 : decode prog_5_method_19_code 38 = .ok (.iconst 1, 1) := by decide +kernel
theorem d_Rules_leaveTree_39 : decode prog_5_method_19_code 39 = .ok (.goto 4, 3) := by decide +kernel
theorem d_Rules_leaveTree_42 : decode prog_5_method_19_code 42 = .ok (.iconst 0, 1) := by decide +kernel
theorem d_Rules_leaveTree_43 : decode prog_5_method_19_code 43 = .ok (.istore 4, 2) := by decide +kernel
theorem d_Rules_leaveTree_45 : decode prog_5_method_19_code 45 = .ok (.iload 4, 2) := by decide +kernel
theorem d_Rules_leaveTree_47 : decode prog_5_method_19_code 47 = .ok (.ifCond .eq 48, 3) := by decide +kernel
theorem d_Rules_leaveTree_50 : decode prog_5_method_19_code 50 = .ok (.aload_n 1, 1) := by decide +kernel
theorem d_Rules_leaveTree_51 : decode prog_5_method_19_code 51 = .ok (.bipush 87, 2) := by decide +kernel
theorem d_Rules_leaveTree_53 : decode prog_5_method_19_code 53 = .ok (.iload_n 3, 1) := by decide +kernel
theorem d_Rules_leaveTree_54 : decode prog_5_method_19_code 54 = .ok (.iadd, 1) := by decide +kernel
theorem d_Rules_leaveTree_55 : decode prog_5_method_19_code 55 = .ok (.iaload, 1) := by decide +kernel
theorem d_Rules_leaveTree_56 : decode prog_5_method_19_code 56 = .ok (.iconst 1, 1) := by decide +kernel
theorem d_Rules_leaveTree_57 : decode prog_5_method_19_code 57 = .ok (.if_icmp .ne 38, 3) := by decide +kernel
theorem d_Rules_leaveTree_60 : decode prog_5_method_19_code 60 = .ok (.aload_n 1, 1) := by decide +kernel
theorem d_Rules_leaveTree_61 : decode prog_5_method_19_code 61 = .ok (.iconst 0, 1) := by decide +kernel
theorem d_Rules_leaveTree_62 : decode prog_5_method_19_code 62 = .ok (.iload_n 3, 1) := by decide +kernel
theorem d_Rules_leaveTree_63 : decode prog_5_method_19_code 63 = .ok (.iadd, 1) := by decide +kernel
theorem d_Rules_leaveTree_64 : decode prog_5_method_19_code 64 = .ok (.iaload, 1) := by decide +kernel
theorem d_Rules_leaveTree_65 : decode prog_5_method_19_code 65 = .ok (.ifCond .ne 30, 3) := by decide +kernel
theorem d_Rules_leaveTree_68 : decode prog_5_method_19_code 68 = .ok (.aload_n 1, 1) := by decide +kernel
theorem d_Rules_leaveTree_69 : decode prog_5_method_19_code 69 = .ok (.aload_n 1, 1) := by decide +kernel
theorem d_Rules_leaveTree_70 : decode prog_5_method_19_code 70 = .ok (.bipush 81, 2) := by decide +kernel
theorem d_Rules_leaveTree_72 : decode prog_5_method_19_code 72 = .ok (.iload_n 3, 1) := by decide +kernel
theorem d_Rules_leaveTree_73 : decode prog_5_method_19_code 73 = .ok (.iadd, 1) := by decide +kernel
theorem d_Rules_leaveTree_74 : decode prog_5_method_19_code 74 = .ok (.iaload, 1) := by decide +kernel
theorem d_Rules_leaveTree_75 : decode prog_5_method_19_code 75 = .ok (.iconst 0, 1) := by decide +kernel
theorem d_Rules_leaveTree_76 : decode prog_5_method_19_code 76 = .ok (.iconst 0, 1) := by decide +kernel
theorem d_Rules_leaveTree_77 : decode prog_5_method_19_code 77 = .ok (.invokestatic 77, 3) := by decide +kernel
theorem d_Rules_leaveTree_80 : decode prog_5_method_19_code 80 = .ok (.istore_n 2, 1) := by decide +kernel
theorem d_Rules_leaveTree_81 : decode prog_5_method_19_code 81 = .ok (.aload_n 1, 1) := by decide +kernel
theorem d_Rules_leaveTree_82 : decode prog_5_method_19_code 82 = .ok (.bipush 87, 2) := by decide +kernel
theorem d_Rules_leaveTree_84 : decode prog_5_method_19_code 84 = .ok (.iload_n 3, 1) := by decide +kernel
theorem d_Rules_leaveTree_85 : decode prog_5_method_19_code 85 = .ok (.iadd, 1) := by decide +kernel
theorem d_Rules_leaveTree_86 : decode prog_5_method_19_code 86 = .ok (.iconst 0, 1) := by decide +kernel
theorem d_Rules_leaveTree_87 : decode prog_5_method_19_code 87 = .ok (.iastore, 1) := by decide +kernel
theorem d_Rules_leaveTree_88 : decode prog_5_method_19_code 88 = .ok (.aload_n 1, 1) := by decide +kernel
theorem d_Rules_leaveTree_89 : decode prog_5_method_19_code 89 = .ok (.bipush 81, 2) := by decide +kernel
theorem d_Rules_leaveTree_91 : decode prog_5_method_19_code 91 = .ok (.iload_n 3, 1) := by decide +kernel
theorem d_Rules_leaveTree_92 : decode prog_5_method_19_code 92 = .ok (.iadd, 1) := by decide +kernel
theorem d_Rules_leaveTree_93 : decode prog_5_method_19_code 93 = .ok (.iconst (-1), 1) := by decide +kernel
theorem d_Rules_leaveTree_94 : decode prog_5_method_19_code 94 = .ok (.iastore, 1) := by decide +kernel
theorem d_Rules_leaveTree_95 : decode prog_5_method_19_code 95 = .ok (.iinc 3 1, 3) := by decide +kernel
theorem d_Rules_leaveTree_98 : decode prog_5_method_19_code 98 = .ok (.goto (-94), 3) := by decide +kernel
theorem d_Rules_leaveTree_101 : decode prog_5_method_19_code 101 = .ok (.iload_n 2, 1) := by decide +kernel
theorem d_Rules_leaveTree_102 : decode prog_5_method_19_code 102 = .ok (.ireturn, 1) := by decide +kernel
set_option maxHeartbeats 4000000 in
set_option maxRecDepth 100000 in
theorem r_Rules_leaveTree_43 {p : Program} {l : Launch} {e : Env} {s : State} {m : MethodId} {args : Array Value} {below : List Frame} {meth : Method} {c : Code} {G : zG} {K : Nat} (X : zX p s m args meth c "AllHome$Rules" prog_5_method_19_code 5 (some .int) G (zA G K)) {r : Int32} {h' : zH} (a0 : Nat) (a1 : Nat) (x2 : Int32) (x3 : Int32) (y0 : Int32) (h : zH) (k4 : (Int32 × Int32 × zH) → Option (Int32 × zH)) (hk4 : ∀ (w : Int32 × Int32 × zH), k4 w = some (r, h') → ∀ (H : Heap) (locs : List Loc) (ls : Array Slot), zI G K s (zA G K) H locs w.2.2 → lv_has ls 5 [(0, .ref (G.1 a0)), (1, .ref (G.1 a1)), (2, .int w.1), (3, .int w.2.1)] → W p l e (zR 1) s m args below meth c H locs 0 0 (MQ below (zQi G K r h') args s 0 0 (zA G K)) (F0 m 4 ls [])) (hm : g_Rules_leaveTree_43 a0 a1 x2 x3 y0 h k4 = some (r, h')) {H : Heap} {locs : List Loc} {ls : Array Slot} (hI : zI G K s (zA G K) H locs h) (hl : lv_has ls 5 [(0, .ref (G.1 a0)), (1, .ref (G.1 a1)), (2, .int x2), (3, .int x3)]) : W p l e (zR 1) s m args below meth c H locs 0 0 (MQ below (zQi G K r h') args s 0 0 (zA G K)) (F0 m 43 ls [.int y0]) := by
  obtain ⟨hx, hb, hml, hown, hts, hr, hlocks, hK, hST, hNs⟩ := id X
  unfold g_Rules_leaveTree_43 at hm
  refine lv_istore (lv' := [(4, .int y0), (0, .ref (G.1 a0)), (1, .ref (G.1 a1)), (2, .int x2), (3, .int x3)]) hx hb d_Rules_leaveTree_43 hl (by decide) rfl (fun ls hl => ?_)
  refine lv_iload hx hb d_Rules_leaveTree_45 (lv_at hl 0 rfl) ?_
  refine lv_if_eq (tgt := 95) hx hb d_Rules_leaveTree_47 (by decide) (fun hc47 => ?_) (fun hc47 => ?_)
  · replace hm := zif_t hc47 hm
    refine lv_iinc (v := (x3 + (nI 1))) (lv' := [(3, .int (x3 + (nI 1))), (4, .int y0), (0, .ref (G.1 a0)), (1, .ref (G.1 a1)), (2, .int x2)]) hx hb d_Rules_leaveTree_95 hl (k := 4) rfl (congrArg (fun z => x3 + z) (show Int32.ofInt (1) = (nI 1) by decide)) (by decide) rfl (fun ls hl => ?_)
    refine lv_goto (tgt := 4) hx hb d_Rules_leaveTree_98 (by decide) ?_
    obtain ⟨g1, e1⟩ : ∃ z, z = (x3 + (nI 1)) := ⟨_, rfl⟩
    rw [← e1] at hm hl
    exact hk4 (x2, g1, h) hm _ _ _ hI (lv_sub hl [2, 3, 4, 0] rfl)
  · replace hm := zif_f hc47 hm
    refine lv_aload_n hx hb d_Rules_leaveTree_50 rfl (lv_at hl 2 rfl) ?_
    refine lv_bipush (v := (nI 87)) hx hb d_Rules_leaveTree_51 (by decide) ?_
    refine lv_iload_n hx hb d_Rules_leaveTree_53 rfl (lv_at hl 4 rfl) ?_
    refine lv_iadd hx hb d_Rules_leaveTree_54 ?_
    obtain ⟨v55, hv, hm⟩ := zbd hm
    refine z_iald X hI hv d_Rules_leaveTree_55 ?_
    refine lv_iconst (v := (nI 1)) hx hb d_Rules_leaveTree_56 (by decide) ?_
    refine lv_icmp_ne (tgt := 95) hx hb d_Rules_leaveTree_57 (by decide) (fun hc57 => ?_) (fun hc57 => ?_)
    · replace hm := zif_f hc57 hm
      refine lv_iinc (v := (x3 + (nI 1))) (lv' := [(3, .int (x3 + (nI 1))), (4, .int y0), (0, .ref (G.1 a0)), (1, .ref (G.1 a1)), (2, .int x2)]) hx hb d_Rules_leaveTree_95 hl (k := 4) rfl (congrArg (fun z => x3 + z) (show Int32.ofInt (1) = (nI 1) by decide)) (by decide) rfl (fun ls hl => ?_)
      refine lv_goto (tgt := 4) hx hb d_Rules_leaveTree_98 (by decide) ?_
      obtain ⟨g1, e1⟩ : ∃ z, z = (x3 + (nI 1)) := ⟨_, rfl⟩
      rw [← e1] at hm hl
      exact hk4 (x2, g1, h) hm _ _ _ hI (lv_sub hl [2, 3, 4, 0] rfl)
    · replace hm := zif_t hc57 hm
      refine lv_aload_n hx hb d_Rules_leaveTree_60 rfl (lv_at hl 2 rfl) ?_
      refine lv_iconst (v := (nI 0)) hx hb d_Rules_leaveTree_61 (by decide) ?_
      refine lv_iload_n hx hb d_Rules_leaveTree_62 rfl (lv_at hl 4 rfl) ?_
      refine lv_iadd hx hb d_Rules_leaveTree_63 ?_
      obtain ⟨v64, hv, hm⟩ := zbd hm
      refine z_iald X hI hv d_Rules_leaveTree_64 ?_
      refine lv_if_ne (tgt := 95) hx hb d_Rules_leaveTree_65 (by decide) (fun hc65 => ?_) (fun hc65 => ?_)
      · replace hm := zif_f hc65 hm
        refine lv_iinc (v := (x3 + (nI 1))) (lv' := [(3, .int (x3 + (nI 1))), (4, .int y0), (0, .ref (G.1 a0)), (1, .ref (G.1 a1)), (2, .int x2)]) hx hb d_Rules_leaveTree_95 hl (k := 4) rfl (congrArg (fun z => x3 + z) (show Int32.ofInt (1) = (nI 1) by decide)) (by decide) rfl (fun ls hl => ?_)
        refine lv_goto (tgt := 4) hx hb d_Rules_leaveTree_98 (by decide) ?_
        obtain ⟨g1, e1⟩ : ∃ z, z = (x3 + (nI 1)) := ⟨_, rfl⟩
        rw [← e1] at hm hl
        exact hk4 (x2, g1, h) hm _ _ _ hI (lv_sub hl [2, 3, 4, 0] rfl)
      · replace hm := zif_t hc65 hm
        refine lv_aload_n hx hb d_Rules_leaveTree_68 rfl (lv_at hl 2 rfl) ?_
        refine lv_aload_n hx hb d_Rules_leaveTree_69 rfl (lv_at hl 2 rfl) ?_
        refine lv_bipush (v := (nI 81)) hx hb d_Rules_leaveTree_70 (by decide) ?_
        refine lv_iload_n hx hb d_Rules_leaveTree_72 rfl (lv_at hl 4 rfl) ?_
        refine lv_iadd hx hb d_Rules_leaveTree_73 ?_
        obtain ⟨v74, hv, hm⟩ := zbd hm
        refine z_iald X hI hv d_Rules_leaveTree_74 ?_
        refine lv_iconst (v := (nI 0)) hx hb d_Rules_leaveTree_75 (by decide) ?_
        refine lv_iconst (v := (nI 0)) hx hb d_Rules_leaveTree_76 (by decide) ?_
        obtain ⟨v77, h77, hv, hm⟩ := zb2_at hm
        refine z_ci hI (z_runS (As := [.ref (G.1 a1), .int v74, .int (nI 0), .int (nI 0)]) (rest := []) X hI hl.1 (c_Rules_sendNote l G K a1 v74 (nI 0) (nI 0) h _ _ hv) C_Rules_77 rfl (Nat.le_of_ble_eq_true rfl) ⟨Nat.le_of_ble_eq_true rfl, Nat.le_of_ble_eq_true rfl, Nat.zero_le _, Nat.zero_le _⟩ rfl d_Rules_leaveTree_77) (fun H locs hI => ?_)
        refine lv_istore_n (lv' := [(2, .int v77), (4, .int y0), (0, .ref (G.1 a0)), (1, .ref (G.1 a1)), (3, .int x3)]) hx hb d_Rules_leaveTree_80 rfl hl (by decide) rfl (fun ls hl => ?_)
        refine lv_aload_n hx hb d_Rules_leaveTree_81 rfl (lv_at hl 3 rfl) ?_
        refine lv_bipush (v := (nI 87)) hx hb d_Rules_leaveTree_82 (by decide) ?_
        refine lv_iload_n hx hb d_Rules_leaveTree_84 rfl (lv_at hl 4 rfl) ?_
        refine lv_iadd hx hb d_Rules_leaveTree_85 ?_
        refine lv_iconst (v := (nI 0)) hx hb d_Rules_leaveTree_86 (by decide) ?_
        obtain ⟨h87, hv, hm⟩ := zbd hm
        refine z_iast X hI hv d_Rules_leaveTree_87 (fun H locs hI => ?_)
        refine lv_aload_n hx hb d_Rules_leaveTree_88 rfl (lv_at hl 3 rfl) ?_
        refine lv_bipush (v := (nI 81)) hx hb d_Rules_leaveTree_89 (by decide) ?_
        refine lv_iload_n hx hb d_Rules_leaveTree_91 rfl (lv_at hl 4 rfl) ?_
        refine lv_iadd hx hb d_Rules_leaveTree_92 ?_
        refine lv_iconst (v := (-1 : Int32)) hx hb d_Rules_leaveTree_93 (by decide) ?_
        obtain ⟨h94, hv, hm⟩ := zbd hm
        refine z_iast X hI hv d_Rules_leaveTree_94 (fun H locs hI => ?_)
        refine lv_iinc (v := (x3 + (nI 1))) (lv' := [(3, .int (x3 + (nI 1))), (2, .int v77), (4, .int y0), (0, .ref (G.1 a0)), (1, .ref (G.1 a1))]) hx hb d_Rules_leaveTree_95 hl (k := 4) rfl (congrArg (fun z => x3 + z) (show Int32.ofInt (1) = (nI 1) by decide)) (by decide) rfl (fun ls hl => ?_)
        refine lv_goto (tgt := 4) hx hb d_Rules_leaveTree_98 (by decide) ?_
        obtain ⟨g1, e1⟩ : ∃ z, z = (x3 + (nI 1)) := ⟨_, rfl⟩
        rw [← e1] at hm hl
        exact hk4 (v77, g1, h94) hm _ _ _ hI (lv_sub hl [3, 4, 1, 0] rfl)
set_option maxHeartbeats 4000000 in
set_option maxRecDepth 100000 in
theorem r_Rules_leaveTree_4_b {p : Program} {l : Launch} {e : Env} {s : State} {m : MethodId} {args : Array Value} {below : List Frame} {meth : Method} {c : Code} {G : zG} {K : Nat} (X : zX p s m args meth c "AllHome$Rules" prog_5_method_19_code 5 (some .int) G (zA G K)) {r : Int32} {h' : zH} (a0 : Nat) (a1 : Nat) (k4 : (Int32 × Int32 × zH) → Option (Int32 × zH)) (hk4 : ∀ (w : Int32 × Int32 × zH), k4 w = some (r, h') → ∀ (H : Heap) (locs : List Loc) (ls : Array Slot), zI G K s (zA G K) H locs w.2.2 → lv_has ls 5 [(0, .ref (G.1 a0)), (1, .ref (G.1 a1)), (2, .int w.1), (3, .int w.2.1)] → W p l e (zR 1) s m args below meth c H locs 0 0 (MQ below (zQi G K r h') args s 0 0 (zA G K)) (F0 m 4 ls [])) (u : Int32 × Int32 × zH) (hm : g_Rules_leaveTree_4 a0 a1 k4 u = some (r, h')) {H : Heap} {locs : List Loc} {ls : Array Slot} (hI : zI G K s (zA G K) H locs u.2.2) (hl : lv_has ls 5 [(0, .ref (G.1 a0)), (1, .ref (G.1 a1)), (2, .int u.1), (3, .int u.2.1)]) : W p l e (zR 1) s m args below meth c H locs 0 0 (MQ below (zQi G K r h') args s 0 0 (zA G K)) (F0 m 4 ls []) := by
  obtain ⟨hx, hb, hml, hown, hts, hr, hlocks, hK, hST, hNs⟩ := id X
  unfold g_Rules_leaveTree_4 at hm
  refine lv_iload_n hx hb d_Rules_leaveTree_4 rfl (lv_at hl 3 rfl) ?_
  refine lv_aload_n hx hb d_Rules_leaveTree_5 rfl (lv_at hl 0 rfl) ?_
  obtain ⟨v6, hv, hm⟩ := zbd hm
  refine z_getR X hI F_Rules_9 hv d_Rules_leaveTree_6 ?_
  obtain ⟨v9, hv, hm⟩ := zbd hm
  obtain ⟨hq, hv⟩ := zcv_at hv
  refine z_ci hI (z_runV (As := []) (rest := [.int u.2.1]) X hI hl.1 (c_Huts_size l G K v6 u.2.2 _ hv) C_Rules_104 rfl hq (Nat.le_of_ble_eq_true rfl) ⟨Nat.le_of_ble_eq_true rfl, Nat.le_of_ble_eq_true rfl, Nat.zero_le _, Nat.zero_le _⟩ rfl d_Rules_leaveTree_9) (fun H locs hI => ?_)
  refine lv_icmp_ge (tgt := 101) hx hb d_Rules_leaveTree_12 (by decide) (fun hc12 => ?_) (fun hc12 => ?_)
  · replace hm := zif_t hc12 hm
    refine lv_iload_n hx hb d_Rules_leaveTree_101 rfl (lv_at hl 2 rfl) ?_
    obtain ⟨rfl, rfl⟩ := zs2 hm
    exact z_iret X hI d_Rules_leaveTree_102
  · replace hm := zif_f hc12 hm
    refine lv_iload_n hx hb d_Rules_leaveTree_15 rfl (lv_at hl 2 rfl) ?_
    refine lv_iconst (v := (nI 1)) hx hb d_Rules_leaveTree_16 (by decide) ?_
    refine lv_icmp_ne (tgt := 101) hx hb d_Rules_leaveTree_17 (by decide) (fun hc17 => ?_) (fun hc17 => ?_)
    · replace hm := zif_f hc17 hm
      refine lv_iload_n hx hb d_Rules_leaveTree_101 rfl (lv_at hl 2 rfl) ?_
      obtain ⟨rfl, rfl⟩ := zs2 hm
      exact z_iret X hI d_Rules_leaveTree_102
    · replace hm := zif_t hc17 hm
      refine lv_aload_n hx hb d_Rules_leaveTree_20 rfl (lv_at hl 0 rfl) ?_
      obtain ⟨v21, hv, hm⟩ := zbd hm
      refine z_getI X hI F_Rules_23 hv d_Rules_leaveTree_21 ?_
      refine lv_bipush (v := (nI 6)) hx hb d_Rules_leaveTree_24 (by decide) ?_
      refine lv_icmp_eq (tgt := 38) hx hb d_Rules_leaveTree_26 (by decide) (fun hc26 => ?_) (fun hc26 => ?_)
      · replace hm := zif_t hc26 hm
        refine lv_iconst (v := (nI 1)) hx hb d_Rules_leaveTree_38 (by decide) ?_
        refine lv_goto (tgt := 43) hx hb d_Rules_leaveTree_39 (by decide) ?_
        exact r_Rules_leaveTree_43 X a0 a1 u.1 u.2.1 (nI 1) u.2.2 k4 hk4 hm hI (lv_sub hl [0, 1, 2, 3] rfl)
      · replace hm := zif_f hc26 hm
        refine lv_aload_n hx hb d_Rules_leaveTree_29 rfl (lv_at hl 1 rfl) ?_
        refine lv_bipush (v := (nI 75)) hx hb d_Rules_leaveTree_30 (by decide) ?_
        refine lv_iload_n hx hb d_Rules_leaveTree_32 rfl (lv_at hl 3 rfl) ?_
        refine lv_iadd hx hb d_Rules_leaveTree_33 ?_
        obtain ⟨v34, hv, hm⟩ := zbd hm
        refine z_iald X hI hv d_Rules_leaveTree_34 ?_
        refine lv_if_ne (tgt := 42) hx hb d_Rules_leaveTree_35 (by decide) (fun hc35 => ?_) (fun hc35 => ?_)
        · replace hm := zif_f hc35 hm
          refine lv_iconst (v := (nI 0)) hx hb d_Rules_leaveTree_42 (by decide) ?_
          exact r_Rules_leaveTree_43 X a0 a1 u.1 u.2.1 (nI 0) u.2.2 k4 hk4 hm hI (lv_sub hl [0, 1, 2, 3] rfl)
        · replace hm := zif_t hc35 hm
          refine lv_iconst (v := (nI 1)) hx hb d_Rules_leaveTree_38 (by decide) ?_
          refine lv_goto (tgt := 43) hx hb d_Rules_leaveTree_39 (by decide) ?_
          exact r_Rules_leaveTree_43 X a0 a1 u.1 u.2.1 (nI 1) u.2.2 k4 hk4 hm hI (lv_sub hl [0, 1, 2, 3] rfl)
theorem r_Rules_leaveTree_4 {p : Program} {l : Launch} {e : Env} {s : State} {m : MethodId} {args : Array Value} {below : List Frame} {meth : Method} {c : Code} {G : zG} {K : Nat} (X : zX p s m args meth c "AllHome$Rules" prog_5_method_19_code 5 (some .int) G (zA G K)) {r : Int32} {h' : zH} (a0 : Nat) (a1 : Nat) : ∀ (n : Nat) (w : Int32 × Int32 × zH), zloop (g_Rules_leaveTree_4 a0 a1) n w = some (r, h') → ∀ (H : Heap) (locs : List Loc) (ls : Array Slot), zI G K s (zA G K) H locs w.2.2 → lv_has ls 5 [(0, .ref (G.1 a0)), (1, .ref (G.1 a1)), (2, .int w.1), (3, .int w.2.1)] → W p l e (zR 1) s m args below meth c H locs 0 0 (MQ below (zQi G K r h') args s 0 0 (zA G K)) (F0 m 4 ls []) := by
  intro n
  induction n with
  | zero => intro w hm; cases hm
  | succ n ih => intro w hm H locs ls hI hl; exact r_Rules_leaveTree_4_b X a0 a1 (zloop (g_Rules_leaveTree_4 a0 a1) n) ih w (zls hm) hI hl
set_option maxHeartbeats 4000000 in
set_option maxRecDepth 100000 in
theorem r_Rules_leaveTree_0 {p : Program} {l : Launch} {e : Env} {s : State} {m : MethodId} {args : Array Value} {below : List Frame} {meth : Method} {c : Code} {G : zG} {K : Nat} (X : zX p s m args meth c "AllHome$Rules" prog_5_method_19_code 5 (some .int) G (zA G K)) {r : Int32} {h' : zH} (a0 : Nat) (a1 : Nat) (h : zH) (hm : m_Rules_leaveTree a0 a1 h = some (r, h')) {H : Heap} {locs : List Loc} {ls : Array Slot} (hI : zI G K s (zA G K) H locs h) (hl : lv_has ls 5 [(0, .ref (G.1 a0)), (1, .ref (G.1 a1))]) : W p l e (zR 1) s m args below meth c H locs 0 0 (MQ below (zQi G K r h') args s 0 0 (zA G K)) (F0 m 0 ls []) := by
  obtain ⟨hx, hb, hml, hown, hts, hr, hlocks, hK, hST, hNs⟩ := id X
  unfold m_Rules_leaveTree at hm
  refine lv_iconst (v := (nI 1)) hx hb d_Rules_leaveTree_0 (by decide) ?_
  refine lv_istore_n (lv' := [(2, .int (nI 1)), (0, .ref (G.1 a0)), (1, .ref (G.1 a1))]) hx hb d_Rules_leaveTree_1 rfl hl (by decide) rfl (fun ls hl => ?_)
  refine lv_iconst (v := (nI 1)) hx hb d_Rules_leaveTree_2 (by decide) ?_
  refine lv_istore_n (lv' := [(3, .int (nI 1)), (2, .int (nI 1)), (0, .ref (G.1 a0)), (1, .ref (G.1 a1))]) hx hb d_Rules_leaveTree_3 rfl hl (by decide) rfl (fun ls hl => ?_)
  exact r_Rules_leaveTree_4 X a0 a1 zN ((nI 1), (nI 1), h) hm _ _ _ hI (lv_sub hl [2, 3, 1, 0] rfl)
set_option maxHeartbeats 4000000 in
set_option maxRecDepth 100000 in
theorem c_Rules_leaveTree (l : Launch) (G : zG) (K : Nat) (a0 : Nat) (a1 : Nat) (h : zH) (r : Int32) (h' : zH) (hm : m_Rules_leaveTree a0 a1 h = some (r, h')) : zMi l G K y_Rules_leaveTree prog_5_method_19_code 5 1 [.ref (G.1 a0), .ref (G.1 a1)] h r h' := zMet (by decide +kernel) (Nat.le_of_ble_eq_true rfl) (fun p e s m below meth c ls X hI hl => r_Rules_leaveTree_0 X a0 a1 h hm hI hl)
-- walk of AllHome$Rules.seesAllHome
theorem d_Rules_seesAllHome_0 : decode prog_5_method_20_code 0 = .ok (.aload_n 1, 1) := by decide +kernel
theorem d_Rules_seesAllHome_1 : decode prog_5_method_20_code 1 = .ok (.iconst 0, 1) := by decide +kernel
theorem d_Rules_seesAllHome_2 : decode prog_5_method_20_code 2 = .ok (.iaload, 1) := by decide +kernel
theorem d_Rules_seesAllHome_3 : decode prog_5_method_20_code 3 = .ok (.iconst 1, 1) := by decide +kernel
theorem d_Rules_seesAllHome_4 : decode prog_5_method_20_code 4 = .ok (.if_icmp .ne 5, 3) := by decide +kernel
theorem d_Rules_seesAllHome_7 : decode prog_5_method_20_code 7 = .ok (.iconst 0, 1) := by decide +kernel
theorem d_Rules_seesAllHome_8 : decode prog_5_method_20_code 8 = .ok (.ireturn, 1) := by decide +kernel
theorem d_Rules_seesAllHome_9 : decode prog_5_method_20_code 9 = .ok (.aload_n 0, 1) := by decide +kernel
theorem d_Rules_seesAllHome_10 : decode prog_5_method_20_code 10 = .ok (.getfield 15, 3) := by decide +kernel
theorem d_Rules_seesAllHome_13 : decode prog_5_method_20_code 13 = .ok (.iconst 1, 1) := by decide +kernel
theorem d_Rules_seesAllHome_14 : decode prog_5_method_20_code 14 = .ok (.if_icmp .ne 18, 3) := by decide +kernel
theorem d_Rules_seesAllHome_17 : decode prog_5_method_20_code 17 = .ok (.aload_n 1, 1) := by decide +kernel
theorem d_Rules_seesAllHome_18 : decode prog_5_method_20_code 18 = .ok (.bipush 68, 2) := by decide +kernel
theorem d_Rules_seesAllHome_20 : decode prog_5_method_20_code 20 = .ok (.iaload, 1) := by decide +kernel
theorem d_Rules_seesAllHome_21 : decode prog_5_method_20_code 21 = .ok (.aload_n 1, 1) := by decide +kernel
theorem d_Rules_seesAllHome_22 : decode prog_5_method_20_code 22 = .ok (.bipush 74, 2) := by decide +kernel
theorem d_Rules_seesAllHome_24 : decode prog_5_method_20_code 24 = .ok (.iaload, 1) := by decide +kernel
theorem d_Rules_seesAllHome_25 : decode prog_5_method_20_code 25 = .ok (.if_icmp .ne 7, 3) := by decide +kernel
theorem d_Rules_seesAllHome_28 : decode prog_5_method_20_code 28 = .ok (.iconst 1, 1) := by decide +kernel
theorem d_Rules_seesAllHome_29 : decode prog_5_method_20_code 29 = .ok (.goto 4, 3) := by decide +kernel
theorem d_Rules_seesAllHome_32 : decode prog_5_method_20_code 32 = .ok (.iconst 0, 1) := by decide +kernel
theorem d_Rules_seesAllHome_33 : decode prog_5_method_20_code 33 = .ok (.istore_n 2, 1) := by decide +kernel
theorem d_Rules_seesAllHome_34 : decode prog_5_method_20_code 34 = .ok (.aload_n 0, 1) := by decide +kernel
theorem d_Rules_seesAllHome_35 : decode prog_5_method_20_code 35 = .ok (.getfield 15, 3) := by decide +kernel
theorem d_Rules_seesAllHome_38 : decode prog_5_method_20_code 38 = .ok (.iconst 2, 1) := by decide +kernel
theorem d_Rules_seesAllHome_39 : decode prog_5_method_20_code 39 = .ok (.if_icmp .ne 14, 3) := by decide +kernel
theorem d_Rules_seesAllHome_42 : decode prog_5_method_20_code 42 = .ok (.aload_n 1, 1) := by decide +kernel
theorem d_Rules_seesAllHome_43 : decode prog_5_method_20_code 43 = .ok (.bipush 75, 2) := by decide +kernel
theorem d_Rules_seesAllHome_45 : decode prog_5_method_20_code 45 = .ok (.iaload, 1) := by decide +kernel
theorem d_Rules_seesAllHome_46 : decode prog_5_method_20_code 46 = .ok (.ifCond .gt 7, 3) := by decide +kernel
theorem d_Rules_seesAllHome_49 : decode prog_5_method_20_code 49 = .ok (.iconst 1, 1) := by decide +kernel
theorem d_Rules_seesAllHome_50 : decode prog_5_method_20_code 50 = .ok (.goto 4, 3) := by decide +kernel
theorem d_Rules_seesAllHome_53 : decode prog_5_method_20_code 53 = .ok (.iconst 0, 1) := by decide +kernel
theorem d_Rules_seesAllHome_54 : decode prog_5_method_20_code 54 = .ok (.istore_n 3, 1) := by decide +kernel
theorem d_Rules_seesAllHome_55 : decode prog_5_method_20_code 55 = .ok (.iload_n 2, 1) := by decide +kernel
theorem d_Rules_seesAllHome_56 : decode prog_5_method_20_code 56 = .ok (.ifCond .ne 7, 3) := by decide +kernel
theorem d_Rules_seesAllHome_59 : decode prog_5_method_20_code 59 = .ok (.iload_n 3, 1) := by decide +kernel
theorem d_Rules_seesAllHome_60 : decode prog_5_method_20_code 60 = .ok (.ifCond .eq 7, 3) := by decide +kernel
theorem d_Rules_seesAllHome_63 : decode prog_5_method_20_code 63 = .ok (.iconst 1, 1) := by decide +kernel
theorem d_Rules_seesAllHome_64 : decode prog_5_method_20_code 64 = .ok (.goto 4, 3) := by decide +kernel
theorem d_Rules_seesAllHome_67 : decode prog_5_method_20_code 67 = .ok (.iconst 0, 1) := by decide +kernel
theorem d_Rules_seesAllHome_68 : decode prog_5_method_20_code 68 = .ok (.ireturn, 1) := by decide +kernel
set_option maxHeartbeats 4000000 in
set_option maxRecDepth 100000 in
theorem r_Rules_seesAllHome_54 {p : Program} {l : Launch} {e : Env} {s : State} {m : MethodId} {args : Array Value} {below : List Frame} {meth : Method} {c : Code} {G : zG} {K : Nat} (X : zX p s m args meth c "AllHome$Rules" prog_5_method_20_code 4 (some .boolean) G (zA G K)) {r : Int32} (x2 : Int32) (y0 : Int32) (h : zH) (hm : g_Rules_seesAllHome_54 x2 y0 h = some r) {H : Heap} {locs : List Loc} {ls : Array Slot} (hI : zI G K s (zA G K) H locs h) (hl : lv_has ls 4 [(2, .int x2)]) : W p l e (zR 0) s m args below meth c H locs 0 0 (MQ below (zQi G K r h) args s 0 0 (zA G K)) (F0 m 54 ls [.int y0]) := by
  obtain ⟨hx, hb, hml, hown, hts, hr, hlocks, hK, hST, hNs⟩ := id X
  unfold g_Rules_seesAllHome_54 at hm
  refine lv_istore_n (lv' := [(3, .int y0), (2, .int x2)]) hx hb d_Rules_seesAllHome_54 rfl hl (by decide) rfl (fun ls hl => ?_)
  refine lv_iload_n hx hb d_Rules_seesAllHome_55 rfl (lv_at hl 1 rfl) ?_
  refine lv_if_ne (tgt := 63) hx hb d_Rules_seesAllHome_56 (by decide) (fun hc56 => ?_) (fun hc56 => ?_)
  · replace hm := zif_f hc56 hm
    refine lv_iconst (v := (nI 1)) hx hb d_Rules_seesAllHome_63 (by decide) ?_
    refine lv_goto (tgt := 68) hx hb d_Rules_seesAllHome_64 (by decide) ?_
    obtain rfl := zs1 hm
    exact z_zret X hI (by decide) d_Rules_seesAllHome_68
  · replace hm := zif_t hc56 hm
    refine lv_iload_n hx hb d_Rules_seesAllHome_59 rfl (lv_at hl 0 rfl) ?_
    refine lv_if_eq (tgt := 67) hx hb d_Rules_seesAllHome_60 (by decide) (fun hc60 => ?_) (fun hc60 => ?_)
    · replace hm := zif_t hc60 hm
      refine lv_iconst (v := (nI 0)) hx hb d_Rules_seesAllHome_67 (by decide) ?_
      obtain rfl := zs1 hm
      exact z_zret X hI (by decide) d_Rules_seesAllHome_68
    · replace hm := zif_f hc60 hm
      refine lv_iconst (v := (nI 1)) hx hb d_Rules_seesAllHome_63 (by decide) ?_
      refine lv_goto (tgt := 68) hx hb d_Rules_seesAllHome_64 (by decide) ?_
      obtain rfl := zs1 hm
      exact z_zret X hI (by decide) d_Rules_seesAllHome_68
set_option maxHeartbeats 4000000 in
set_option maxRecDepth 100000 in
theorem r_Rules_seesAllHome_33 {p : Program} {l : Launch} {e : Env} {s : State} {m : MethodId} {args : Array Value} {below : List Frame} {meth : Method} {c : Code} {G : zG} {K : Nat} (X : zX p s m args meth c "AllHome$Rules" prog_5_method_20_code 4 (some .boolean) G (zA G K)) {r : Int32} (a0 : Nat) (a1 : Nat) (y0 : Int32) (h : zH) (hm : g_Rules_seesAllHome_33 a0 a1 y0 h = some r) {H : Heap} {locs : List Loc} {ls : Array Slot} (hI : zI G K s (zA G K) H locs h) (hl : lv_has ls 4 [(0, .ref (G.1 a0)), (1, .ref (G.1 a1))]) : W p l e (zR 0) s m args below meth c H locs 0 0 (MQ below (zQi G K r h) args s 0 0 (zA G K)) (F0 m 33 ls [.int y0]) := by
  obtain ⟨hx, hb, hml, hown, hts, hr, hlocks, hK, hST, hNs⟩ := id X
  unfold g_Rules_seesAllHome_33 at hm
  refine lv_istore_n (lv' := [(2, .int y0), (0, .ref (G.1 a0)), (1, .ref (G.1 a1))]) hx hb d_Rules_seesAllHome_33 rfl hl (by decide) rfl (fun ls hl => ?_)
  refine lv_aload_n hx hb d_Rules_seesAllHome_34 rfl (lv_at hl 1 rfl) ?_
  obtain ⟨v35, hv, hm⟩ := zbd hm
  refine z_getI X hI F_Rules_15 hv d_Rules_seesAllHome_35 ?_
  refine lv_iconst (v := (nI 2)) hx hb d_Rules_seesAllHome_38 (by decide) ?_
  refine lv_icmp_ne (tgt := 53) hx hb d_Rules_seesAllHome_39 (by decide) (fun hc39 => ?_) (fun hc39 => ?_)
  · replace hm := zif_f hc39 hm
    refine lv_iconst (v := (nI 0)) hx hb d_Rules_seesAllHome_53 (by decide) ?_
    exact r_Rules_seesAllHome_54 X y0 (nI 0) h hm hI (lv_sub hl [0] rfl)
  · replace hm := zif_t hc39 hm
    refine lv_aload_n hx hb d_Rules_seesAllHome_42 rfl (lv_at hl 2 rfl) ?_
    refine lv_bipush (v := (nI 75)) hx hb d_Rules_seesAllHome_43 (by decide) ?_
    obtain ⟨v45, hv, hm⟩ := zbd hm
    refine z_iald X hI hv d_Rules_seesAllHome_45 ?_
    refine lv_if_gt (tgt := 53) hx hb d_Rules_seesAllHome_46 (by decide) (fun hc46 => ?_) (fun hc46 => ?_)
    · replace hm := zif_t hc46 hm
      refine lv_iconst (v := (nI 0)) hx hb d_Rules_seesAllHome_53 (by decide) ?_
      exact r_Rules_seesAllHome_54 X y0 (nI 0) h hm hI (lv_sub hl [0] rfl)
    · replace hm := zif_f hc46 hm
      refine lv_iconst (v := (nI 1)) hx hb d_Rules_seesAllHome_49 (by decide) ?_
      refine lv_goto (tgt := 54) hx hb d_Rules_seesAllHome_50 (by decide) ?_
      exact r_Rules_seesAllHome_54 X y0 (nI 1) h hm hI (lv_sub hl [0] rfl)
set_option maxHeartbeats 4000000 in
set_option maxRecDepth 100000 in
theorem r_Rules_seesAllHome_0 {p : Program} {l : Launch} {e : Env} {s : State} {m : MethodId} {args : Array Value} {below : List Frame} {meth : Method} {c : Code} {G : zG} {K : Nat} (X : zX p s m args meth c "AllHome$Rules" prog_5_method_20_code 4 (some .boolean) G (zA G K)) {r : Int32} (a0 : Nat) (a1 : Nat) (h : zH) (hm : m_Rules_seesAllHome a0 a1 h = some r) {H : Heap} {locs : List Loc} {ls : Array Slot} (hI : zI G K s (zA G K) H locs h) (hl : lv_has ls 4 [(0, .ref (G.1 a0)), (1, .ref (G.1 a1))]) : W p l e (zR 0) s m args below meth c H locs 0 0 (MQ below (zQi G K r h) args s 0 0 (zA G K)) (F0 m 0 ls []) := by
  obtain ⟨hx, hb, hml, hown, hts, hr, hlocks, hK, hST, hNs⟩ := id X
  unfold m_Rules_seesAllHome at hm
  refine lv_aload_n hx hb d_Rules_seesAllHome_0 rfl (lv_at hl 1 rfl) ?_
  refine lv_iconst (v := (nI 0)) hx hb d_Rules_seesAllHome_1 (by decide) ?_
  obtain ⟨v2, hv, hm⟩ := zbd hm
  refine z_iald X hI hv d_Rules_seesAllHome_2 ?_
  refine lv_iconst (v := (nI 1)) hx hb d_Rules_seesAllHome_3 (by decide) ?_
  refine lv_icmp_ne (tgt := 9) hx hb d_Rules_seesAllHome_4 (by decide) (fun hc4 => ?_) (fun hc4 => ?_)
  · replace hm := zif_f hc4 hm
    refine lv_aload_n hx hb d_Rules_seesAllHome_9 rfl (lv_at hl 0 rfl) ?_
    obtain ⟨v10, hv, hm⟩ := zbd hm
    refine z_getI X hI F_Rules_15 hv d_Rules_seesAllHome_10 ?_
    refine lv_iconst (v := (nI 1)) hx hb d_Rules_seesAllHome_13 (by decide) ?_
    refine lv_icmp_ne (tgt := 32) hx hb d_Rules_seesAllHome_14 (by decide) (fun hc14 => ?_) (fun hc14 => ?_)
    · replace hm := zif_f hc14 hm
      refine lv_iconst (v := (nI 0)) hx hb d_Rules_seesAllHome_32 (by decide) ?_
      exact r_Rules_seesAllHome_33 X a0 a1 (nI 0) h hm hI (lv_sub hl [0, 1] rfl)
    · replace hm := zif_t hc14 hm
      refine lv_aload_n hx hb d_Rules_seesAllHome_17 rfl (lv_at hl 1 rfl) ?_
      refine lv_bipush (v := (nI 68)) hx hb d_Rules_seesAllHome_18 (by decide) ?_
      obtain ⟨v20, hv, hm⟩ := zbd hm
      refine z_iald X hI hv d_Rules_seesAllHome_20 ?_
      refine lv_aload_n hx hb d_Rules_seesAllHome_21 rfl (lv_at hl 1 rfl) ?_
      refine lv_bipush (v := (nI 74)) hx hb d_Rules_seesAllHome_22 (by decide) ?_
      obtain ⟨v24, hv, hm⟩ := zbd hm
      refine z_iald X hI hv d_Rules_seesAllHome_24 ?_
      refine lv_icmp_ne (tgt := 32) hx hb d_Rules_seesAllHome_25 (by decide) (fun hc25 => ?_) (fun hc25 => ?_)
      · replace hm := zif_f hc25 hm
        refine lv_iconst (v := (nI 0)) hx hb d_Rules_seesAllHome_32 (by decide) ?_
        exact r_Rules_seesAllHome_33 X a0 a1 (nI 0) h hm hI (lv_sub hl [0, 1] rfl)
      · replace hm := zif_t hc25 hm
        refine lv_iconst (v := (nI 1)) hx hb d_Rules_seesAllHome_28 (by decide) ?_
        refine lv_goto (tgt := 33) hx hb d_Rules_seesAllHome_29 (by decide) ?_
        exact r_Rules_seesAllHome_33 X a0 a1 (nI 1) h hm hI (lv_sub hl [0, 1] rfl)
  · replace hm := zif_t hc4 hm
    refine lv_iconst (v := (nI 0)) hx hb d_Rules_seesAllHome_7 (by decide) ?_
    obtain rfl := zs1 hm
    exact z_zret X hI (by decide) d_Rules_seesAllHome_8
set_option maxHeartbeats 4000000 in
set_option maxRecDepth 100000 in
theorem c_Rules_seesAllHome (l : Launch) (G : zG) (K : Nat) (a0 : Nat) (a1 : Nat) (h : zH) (r : Int32) (hm : m_Rules_seesAllHome a0 a1 h = some r) : zMz l G K y_Rules_seesAllHome prog_5_method_20_code 4 0 [.ref (G.1 a0), .ref (G.1 a1)] h r h := zMet (by decide +kernel) (Nat.le_of_ble_eq_true rfl) (fun p e s m below meth c ls X hI hl => r_Rules_seesAllHome_0 X a0 a1 h hm hI hl)
-- walk of AllHome$Rules.apply
theorem d_Rules_apply_0 : decode prog_5_method_4_code 0 = .ok (.bipush (-5), 2) := by decide +kernel
theorem d_Rules_apply_2 : decode prog_5_method_4_code 2 = .ok (.istore 4, 2) := by decide +kernel
theorem d_Rules_apply_4 : decode prog_5_method_4_code 4 = .ok (.iload_n 2, 1) := by decide +kernel
theorem d_Rules_apply_5 : decode prog_5_method_4_code 5 = .ok (.tableswitch 89 0 4 #[35, 46, 57, 68, 79], 35) := by decide +kernel
theorem d_Rules_apply_40 : decode prog_5_method_4_code 40 = .ok (.aload_n 0, 1) := by decide +kernel
theorem d_Rules_apply_41 : decode prog_5_method_4_code 41 = .ok (.aload_n 1, 1) := by decide +kernel
theorem d_Rules_apply_42 : decode prog_5_method_4_code 42 = .ok (.iload_n 3, 1) := by decide +kernel
theorem d_Rules_apply_43 : decode prog_5_method_4_code 43 = .ok (.invokevirtual 36, 3) := by decide +kernel
theorem d_Rules_apply_46 : decode prog_5_method_4_code 46 = .ok (.istore 4, 2) := by decide +kernel
theorem d_Rules_apply_48 : decode prog_5_method_4_code 48 = .ok (.goto 46, 3) := by decide +kernel
theorem d_Rules_apply_51 : decode prog_5_method_4_code 51 = .ok (.aload_n 0, 1) := by decide +kernel
theorem d_Rules_apply_52 : decode prog_5_method_4_code 52 = .ok (.aload_n 1, 1) := by decide +kernel
theorem d_Rules_apply_53 : decode prog_5_method_4_code 53 = .ok (.iload_n 3, 1) := by decide +kernel
theorem d_Rules_apply_54 : decode prog_5_method_4_code 54 = .ok (.invokevirtual 40, 3) := by decide +kernel
theorem d_Rules_apply_57 : decode prog_5_method_4_code 57 = .ok (.istore 4, 2) := by decide +kernel
theorem d_Rules_apply_59 : decode prog_5_method_4_code 59 = .ok (.goto 35, 3) := by decide +kernel
theorem d_Rules_apply_62 : decode prog_5_method_4_code 62 = .ok (.aload_n 0, 1) := by decide +kernel
theorem d_Rules_apply_63 : decode prog_5_method_4_code 63 = .ok (.aload_n 1, 1) := by decide +kernel
theorem d_Rules_apply_64 : decode prog_5_method_4_code 64 = .ok (.iload_n 3, 1) := by decide +kernel
theorem d_Rules_apply_65 : decode prog_5_method_4_code 65 = .ok (.invokevirtual 43, 3) := by decide +kernel
theorem d_Rules_apply_68 : decode prog_5_method_4_code 68 = .ok (.istore 4, 2) := by decide +kernel
theorem d_Rules_apply_70 : decode prog_5_method_4_code 70 = .ok (.goto 24, 3) := by decide +kernel
theorem d_Rules_apply_73 : decode prog_5_method_4_code 73 = .ok (.aload_n 0, 1) := by decide +kernel
theorem d_Rules_apply_74 : decode prog_5_method_4_code 74 = .ok (.aload_n 1, 1) := by decide +kernel
theorem d_Rules_apply_75 : decode prog_5_method_4_code 75 = .ok (.iload_n 3, 1) := by decide +kernel
theorem d_Rules_apply_76 : decode prog_5_method_4_code 76 = .ok (.invokevirtual 46, 3) := by decide +kernel
theorem d_Rules_apply_79 : decode prog_5_method_4_code 79 = .ok (.istore 4, 2) := by decide +kernel
theorem d_Rules_apply_81 : decode prog_5_method_4_code 81 = .ok (.goto 13, 3) := by decide +kernel
theorem d_Rules_apply_84 : decode prog_5_method_4_code 84 = .ok (.aload_n 1, 1) := by decide +kernel
theorem d_Rules_apply_85 : decode prog_5_method_4_code 85 = .ok (.iload_n 3, 1) := by decide +kernel
theorem d_Rules_apply_86 : decode prog_5_method_4_code 86 = .ok (.invokestatic 49, 3) := by decide +kernel
theorem d_Rules_apply_89 : decode prog_5_method_4_code 89 = .ok (.istore 4, 2) := by decide +kernel
theorem d_Rules_apply_91 : decode prog_5_method_4_code 91 = .ok (.goto 3, 3) := by decide +kernel
theorem d_Rules_apply_94 : decode prog_5_method_4_code 94 = .ok (.iload 4, 2) := by decide +kernel
theorem d_Rules_apply_96 : decode prog_5_method_4_code 96 = .ok (.iconst 1, 1) := by decide +kernel
theorem d_Rules_apply_97 : decode prog_5_method_4_code 97 = .ok (.if_icmp .ne 18, 3) := by decide +kernel
theorem d_Rules_apply_100 : decode prog_5_method_4_code 100 = .ok (.aload_n 0, 1) := by decide +kernel
theorem d_Rules_apply_101 : decode prog_5_method_4_code 101 = .ok (.getfield 15, 3) := by decide +kernel
theorem d_Rules_apply_104 : decode prog_5_method_4_code 104 = .ok (.iconst 2, 1) := by decide +kernel
theorem d_Rules_apply_105 : decode prog_5_method_4_code 105 = .ok (.if_icmp .ne 10, 3) := by decide +kernel
theorem d_Rules_apply_108 : decode prog_5_method_4_code 108 = .ok (.aload_n 0, 1) := by decide +kernel
theorem d_Rules_apply_109 : decode prog_5_method_4_code 109 = .ok (.aload_n 1, 1) := by decide +kernel
theorem d_Rules_apply_110 : decode prog_5_method_4_code 110 = .ok (.invokevirtual 52, 3) := by decide +kernel
theorem d_Rules_apply_113 : decode prog_5_method_4_code 113 = .ok (.istore 4, 2) := by decide +kernel
theorem d_Rules_apply_115 : decode prog_5_method_4_code 115 = .ok (.iload 4, 2) := by decide +kernel
theorem d_Rules_apply_117 : decode prog_5_method_4_code 117 = .ok (.iconst 1, 1) := by decide +kernel
theorem d_Rules_apply_118 : decode prog_5_method_4_code 118 = .ok (.if_icmp .ne 16, 3) := by decide +kernel
theorem d_Rules_apply_121 : decode prog_5_method_4_code 121 = .ok (.aload_n 0, 1) := by decide +kernel
theorem d_Rules_apply_122 : decode prog_5_method_4_code 122 = .ok (.aload_n 1, 1) := by decide +kernel
theorem d_Rules_apply_123 : decode prog_5_method_4_code 123 = .ok (.invokevirtual 56, 3) := by decide +kernel
theorem d_Rules_apply_126 : decode prog_5_method_4_code 126 = .ok (.ifCond .eq 8, 3) := by decide +kernel
theorem d_Rules_apply_129 : decode prog_5_method_4_code 129 = .ok (.aload_n 1, 1) := by decide +kernel
theorem d_Rules_apply_130 : decode prog_5_method_4_code 130 = .ok (.bipush 120, 2) := by decide +kernel
theorem d_Rules_apply_132 : decode prog_5_method_4_code 132 = .ok (.iconst 1, 1) := by decide +kernel
theorem d_Rules_apply_133 : decode prog_5_method_4_code 133 = .ok (.iastore, 1) := by decide +kernel
theorem d_Rules_apply_134 : decode prog_5_method_4_code 134 = .ok (.iload 4, 2) := by decide +kernel
theorem d_Rules_apply_136 : decode prog_5_method_4_code 136 = .ok (.ireturn, 1) := by decide +kernel
set_option maxHeartbeats 4000000 in
set_option maxRecDepth 100000 in
theorem r_Rules_apply_115 {p : Program} {l : Launch} {e : Env} {s : State} {m : MethodId} {args : Array Value} {below : List Frame} {meth : Method} {c : Code} {G : zG} {K : Nat} (X : zX p s m args meth c "AllHome$Rules" prog_5_method_4_code 5 (some .int) G (zA G K)) {r : Int32} {h' : zH} (a0 : Nat) (a1 : Nat) (x4 : Int32) (h : zH) (hm : g_Rules_apply_115 a0 a1 x4 h = some (r, h')) {H : Heap} {locs : List Loc} {ls : Array Slot} (hI : zI G K s (zA G K) H locs h) (hl : lv_has ls 5 [(0, .ref (G.1 a0)), (1, .ref (G.1 a1)), (4, .int x4)]) : W p l e (zR 3) s m args below meth c H locs 0 0 (MQ below (zQi G K r h') args s 0 0 (zA G K)) (F0 m 115 ls []) := by
  obtain ⟨hx, hb, hml, hown, hts, hr, hlocks, hK, hST, hNs⟩ := id X
  unfold g_Rules_apply_115 at hm
  refine lv_iload hx hb d_Rules_apply_115 (lv_at hl 2 rfl) ?_
  refine lv_iconst (v := (nI 1)) hx hb d_Rules_apply_117 (by decide) ?_
  refine lv_icmp_ne (tgt := 134) hx hb d_Rules_apply_118 (by decide) (fun hc118 => ?_) (fun hc118 => ?_)
  · replace hm := zif_f hc118 hm
    refine lv_iload hx hb d_Rules_apply_134 (lv_at hl 2 rfl) ?_
    obtain ⟨rfl, rfl⟩ := zs2 hm
    exact z_iret X hI d_Rules_apply_136
  · replace hm := zif_t hc118 hm
    refine lv_aload_n hx hb d_Rules_apply_121 rfl (lv_at hl 0 rfl) ?_
    refine lv_aload_n hx hb d_Rules_apply_122 rfl (lv_at hl 1 rfl) ?_
    obtain ⟨v123, hv, hm⟩ := zbd hm
    obtain ⟨hq, hv⟩ := zcv_at hv
    refine z_ci hI (z_runV (As := [.ref (G.1 a1)]) (rest := []) X hI hl.1 (c_Rules_seesAllHome l G K a0 a1 h _ hv) C_Rules_56 rfl hq (Nat.le_of_ble_eq_true rfl) ⟨Nat.le_of_ble_eq_true rfl, Nat.le_of_ble_eq_true rfl, Nat.zero_le _, Nat.zero_le _⟩ rfl d_Rules_apply_123) (fun H locs hI => ?_)
    refine lv_if_eq (tgt := 134) hx hb d_Rules_apply_126 (by decide) (fun hc126 => ?_) (fun hc126 => ?_)
    · replace hm := zif_t hc126 hm
      refine lv_iload hx hb d_Rules_apply_134 (lv_at hl 2 rfl) ?_
      obtain ⟨rfl, rfl⟩ := zs2 hm
      exact z_iret X hI d_Rules_apply_136
    · replace hm := zif_f hc126 hm
      refine lv_aload_n hx hb d_Rules_apply_129 rfl (lv_at hl 1 rfl) ?_
      refine lv_bipush (v := (nI 120)) hx hb d_Rules_apply_130 (by decide) ?_
      refine lv_iconst (v := (nI 1)) hx hb d_Rules_apply_132 (by decide) ?_
      obtain ⟨h133, hv, hm⟩ := zbd hm
      refine z_iast X hI hv d_Rules_apply_133 (fun H locs hI => ?_)
      refine lv_iload hx hb d_Rules_apply_134 (lv_at hl 2 rfl) ?_
      obtain ⟨rfl, rfl⟩ := zs2 hm
      exact z_iret X hI d_Rules_apply_136
set_option maxHeartbeats 4000000 in
set_option maxRecDepth 100000 in
theorem r_Rules_apply_94 {p : Program} {l : Launch} {e : Env} {s : State} {m : MethodId} {args : Array Value} {below : List Frame} {meth : Method} {c : Code} {G : zG} {K : Nat} (X : zX p s m args meth c "AllHome$Rules" prog_5_method_4_code 5 (some .int) G (zA G K)) {r : Int32} {h' : zH} (a0 : Nat) (a1 : Nat) (x4 : Int32) (h : zH) (hm : g_Rules_apply_94 a0 a1 x4 h = some (r, h')) {H : Heap} {locs : List Loc} {ls : Array Slot} (hI : zI G K s (zA G K) H locs h) (hl : lv_has ls 5 [(0, .ref (G.1 a0)), (1, .ref (G.1 a1)), (4, .int x4)]) : W p l e (zR 3) s m args below meth c H locs 0 0 (MQ below (zQi G K r h') args s 0 0 (zA G K)) (F0 m 94 ls []) := by
  obtain ⟨hx, hb, hml, hown, hts, hr, hlocks, hK, hST, hNs⟩ := id X
  unfold g_Rules_apply_94 at hm
  refine lv_iload hx hb d_Rules_apply_94 (lv_at hl 2 rfl) ?_
  refine lv_iconst (v := (nI 1)) hx hb d_Rules_apply_96 (by decide) ?_
  refine lv_icmp_ne (tgt := 115) hx hb d_Rules_apply_97 (by decide) (fun hc97 => ?_) (fun hc97 => ?_)
  · replace hm := zif_f hc97 hm
    exact r_Rules_apply_115 X a0 a1 x4 h hm hI (lv_sub hl [0, 1, 2] rfl)
  · replace hm := zif_t hc97 hm
    refine lv_aload_n hx hb d_Rules_apply_100 rfl (lv_at hl 0 rfl) ?_
    obtain ⟨v101, hv, hm⟩ := zbd hm
    refine z_getI X hI F_Rules_15 hv d_Rules_apply_101 ?_
    refine lv_iconst (v := (nI 2)) hx hb d_Rules_apply_104 (by decide) ?_
    refine lv_icmp_ne (tgt := 115) hx hb d_Rules_apply_105 (by decide) (fun hc105 => ?_) (fun hc105 => ?_)
    · replace hm := zif_f hc105 hm
      exact r_Rules_apply_115 X a0 a1 x4 h hm hI (lv_sub hl [0, 1, 2] rfl)
    · replace hm := zif_t hc105 hm
      refine lv_aload_n hx hb d_Rules_apply_108 rfl (lv_at hl 0 rfl) ?_
      refine lv_aload_n hx hb d_Rules_apply_109 rfl (lv_at hl 1 rfl) ?_
      obtain ⟨v110, h110, hv, hm⟩ := zb2_at hm
      obtain ⟨hq, hv⟩ := zcv_at hv
      refine z_ci hI (z_runV (As := [.ref (G.1 a1)]) (rest := []) X hI hl.1 (c_Rules_leaveTree l G K a0 a1 h _ _ hv) C_Rules_52 rfl hq (Nat.le_of_ble_eq_true rfl) ⟨Nat.le_of_ble_eq_true rfl, Nat.le_of_ble_eq_true rfl, Nat.zero_le _, Nat.zero_le _⟩ rfl d_Rules_apply_110) (fun H locs hI => ?_)
      refine lv_istore (lv' := [(4, .int v110), (0, .ref (G.1 a0)), (1, .ref (G.1 a1))]) hx hb d_Rules_apply_113 hl (by decide) rfl (fun ls hl => ?_)
      exact r_Rules_apply_115 X a0 a1 v110 h110 hm hI (lv_sub hl [1, 2, 0] rfl)
set_option maxHeartbeats 4000000 in
set_option maxRecDepth 100000 in
theorem r_Rules_apply_0 {p : Program} {l : Launch} {e : Env} {s : State} {m : MethodId} {args : Array Value} {below : List Frame} {meth : Method} {c : Code} {G : zG} {K : Nat} (X : zX p s m args meth c "AllHome$Rules" prog_5_method_4_code 5 (some .int) G (zA G K)) {r : Int32} {h' : zH} (a0 : Nat) (a1 : Nat) (x2 : Int32) (x3 : Int32) (h : zH) (hm : m_Rules_apply a0 a1 x2 x3 h = some (r, h')) {H : Heap} {locs : List Loc} {ls : Array Slot} (hI : zI G K s (zA G K) H locs h) (hl : lv_has ls 5 [(0, .ref (G.1 a0)), (1, .ref (G.1 a1)), (2, .int x2), (3, .int x3)]) : W p l e (zR 3) s m args below meth c H locs 0 0 (MQ below (zQi G K r h') args s 0 0 (zA G K)) (F0 m 0 ls []) := by
  obtain ⟨hx, hb, hml, hown, hts, hr, hlocks, hK, hST, hNs⟩ := id X
  unfold m_Rules_apply at hm
  refine lv_bipush (v := (-5 : Int32)) hx hb d_Rules_apply_0 (by decide) ?_
  refine lv_istore (lv' := [(4, .int (-5 : Int32)), (0, .ref (G.1 a0)), (1, .ref (G.1 a1)), (2, .int x2), (3, .int x3)]) hx hb d_Rules_apply_2 hl (by decide) rfl (fun ls hl => ?_)
  refine lv_iload_n hx hb d_Rules_apply_4 rfl (lv_at hl 3 rfl) ?_
  by_cases hs5_0 : x2 = (nI 0)
  · replace hm := zif_t hs5_0 hm
    refine lv_tableIn (off := 35) (tgt := 40) hx hb d_Rules_apply_5 (by rw [hs5_0]; decide) (by rw [hs5_0]; decide) (by rw [hs5_0]; rfl) (by decide) ?_
    refine lv_aload_n hx hb d_Rules_apply_40 rfl (lv_at hl 1 rfl) ?_
    refine lv_aload_n hx hb d_Rules_apply_41 rfl (lv_at hl 2 rfl) ?_
    refine lv_iload_n hx hb d_Rules_apply_42 rfl (lv_at hl 4 rfl) ?_
    obtain ⟨v43, h43, hv, hm⟩ := zb2_at hm
    obtain ⟨hq, hv⟩ := zcv_at hv
    refine z_ci hI (z_runV (As := [.ref (G.1 a1), .int x3]) (rest := []) X hI hl.1 (c_Rules_goOn l G K a0 a1 x3 h _ _ hv) C_Rules_36 rfl hq (Nat.le_of_ble_eq_true rfl) ⟨Nat.le_of_ble_eq_true rfl, Nat.le_of_ble_eq_true rfl, Nat.zero_le _, Nat.zero_le _⟩ rfl d_Rules_apply_43) (fun H locs hI => ?_)
    refine lv_istore (lv' := [(4, .int v43), (0, .ref (G.1 a0)), (1, .ref (G.1 a1)), (2, .int x2), (3, .int x3)]) hx hb d_Rules_apply_46 hl (by decide) rfl (fun ls hl => ?_)
    refine lv_goto (tgt := 94) hx hb d_Rules_apply_48 (by decide) ?_
    exact r_Rules_apply_94 X a0 a1 v43 h43 hm hI (lv_sub hl [1, 2, 0] rfl)
  · replace hm := zif_f hs5_0 hm
    by_cases hs5_1 : x2 = (nI 1)
    · replace hm := zif_t hs5_1 hm
      refine lv_tableIn (off := 46) (tgt := 51) hx hb d_Rules_apply_5 (by rw [hs5_1]; decide) (by rw [hs5_1]; decide) (by rw [hs5_1]; rfl) (by decide) ?_
      refine lv_aload_n hx hb d_Rules_apply_51 rfl (lv_at hl 1 rfl) ?_
      refine lv_aload_n hx hb d_Rules_apply_52 rfl (lv_at hl 2 rfl) ?_
      refine lv_iload_n hx hb d_Rules_apply_53 rfl (lv_at hl 4 rfl) ?_
      obtain ⟨v54, h54, hv, hm⟩ := zb2_at hm
      obtain ⟨hq, hv⟩ := zcv_at hv
      refine z_ci hI (z_runV (As := [.ref (G.1 a1), .int x3]) (rest := []) X hI hl.1 (c_Rules_comeWord l G K a0 a1 x3 h _ _ hv) C_Rules_40 rfl hq (Nat.le_of_ble_eq_true rfl) ⟨Nat.le_of_ble_eq_true rfl, Nat.le_of_ble_eq_true rfl, Nat.zero_le _, Nat.zero_le _⟩ rfl d_Rules_apply_54) (fun H locs hI => ?_)
      refine lv_istore (lv' := [(4, .int v54), (0, .ref (G.1 a0)), (1, .ref (G.1 a1)), (2, .int x2), (3, .int x3)]) hx hb d_Rules_apply_57 hl (by decide) rfl (fun ls hl => ?_)
      refine lv_goto (tgt := 94) hx hb d_Rules_apply_59 (by decide) ?_
      exact r_Rules_apply_94 X a0 a1 v54 h54 hm hI (lv_sub hl [1, 2, 0] rfl)
    · replace hm := zif_f hs5_1 hm
      by_cases hs5_2 : x2 = (nI 2)
      · replace hm := zif_t hs5_2 hm
        refine lv_tableIn (off := 57) (tgt := 62) hx hb d_Rules_apply_5 (by rw [hs5_2]; decide) (by rw [hs5_2]; decide) (by rw [hs5_2]; rfl) (by decide) ?_
        refine lv_aload_n hx hb d_Rules_apply_62 rfl (lv_at hl 1 rfl) ?_
        refine lv_aload_n hx hb d_Rules_apply_63 rfl (lv_at hl 2 rfl) ?_
        refine lv_iload_n hx hb d_Rules_apply_64 rfl (lv_at hl 4 rfl) ?_
        obtain ⟨v65, h65, hv, hm⟩ := zb2_at hm
        obtain ⟨hq, hv⟩ := zcv_at hv
        refine z_ci hI (z_runV (As := [.ref (G.1 a1), .int x3]) (rest := []) X hI hl.1 (c_Rules_comeNote l G K a0 a1 x3 h _ _ hv) C_Rules_43 rfl hq (Nat.le_of_ble_eq_true rfl) ⟨Nat.le_of_ble_eq_true rfl, Nat.le_of_ble_eq_true rfl, Nat.zero_le _, Nat.zero_le _⟩ rfl d_Rules_apply_65) (fun H locs hI => ?_)
        refine lv_istore (lv' := [(4, .int v65), (0, .ref (G.1 a0)), (1, .ref (G.1 a1)), (2, .int x2), (3, .int x3)]) hx hb d_Rules_apply_68 hl (by decide) rfl (fun ls hl => ?_)
        refine lv_goto (tgt := 94) hx hb d_Rules_apply_70 (by decide) ?_
        exact r_Rules_apply_94 X a0 a1 v65 h65 hm hI (lv_sub hl [1, 2, 0] rfl)
      · replace hm := zif_f hs5_2 hm
        by_cases hs5_3 : x2 = (nI 3)
        · replace hm := zif_t hs5_3 hm
          refine lv_tableIn (off := 68) (tgt := 73) hx hb d_Rules_apply_5 (by rw [hs5_3]; decide) (by rw [hs5_3]; decide) (by rw [hs5_3]; rfl) (by decide) ?_
          refine lv_aload_n hx hb d_Rules_apply_73 rfl (lv_at hl 1 rfl) ?_
          refine lv_aload_n hx hb d_Rules_apply_74 rfl (lv_at hl 2 rfl) ?_
          refine lv_iload_n hx hb d_Rules_apply_75 rfl (lv_at hl 4 rfl) ?_
          obtain ⟨v76, h76, hv, hm⟩ := zb2_at hm
          obtain ⟨hq, hv⟩ := zcv_at hv
          refine z_ci hI (z_runV (As := [.ref (G.1 a1), .int x3]) (rest := []) X hI hl.1 (c_Rules_ask l G K a0 a1 x3 h _ _ hv) C_Rules_46 rfl hq (Nat.le_of_ble_eq_true rfl) ⟨Nat.le_of_ble_eq_true rfl, Nat.le_of_ble_eq_true rfl, Nat.zero_le _, Nat.zero_le _⟩ rfl d_Rules_apply_76) (fun H locs hI => ?_)
          refine lv_istore (lv' := [(4, .int v76), (0, .ref (G.1 a0)), (1, .ref (G.1 a1)), (2, .int x2), (3, .int x3)]) hx hb d_Rules_apply_79 hl (by decide) rfl (fun ls hl => ?_)
          refine lv_goto (tgt := 94) hx hb d_Rules_apply_81 (by decide) ?_
          exact r_Rules_apply_94 X a0 a1 v76 h76 hm hI (lv_sub hl [1, 2, 0] rfl)
        · replace hm := zif_f hs5_3 hm
          by_cases hs5_4 : x2 = (nI 4)
          · replace hm := zif_t hs5_4 hm
            refine lv_tableIn (off := 79) (tgt := 84) hx hb d_Rules_apply_5 (by rw [hs5_4]; decide) (by rw [hs5_4]; decide) (by rw [hs5_4]; rfl) (by decide) ?_
            refine lv_aload_n hx hb d_Rules_apply_84 rfl (lv_at hl 2 rfl) ?_
            refine lv_iload_n hx hb d_Rules_apply_85 rfl (lv_at hl 4 rfl) ?_
            obtain ⟨v86, h86, hv, hm⟩ := zb2_at hm
            refine z_ci hI (z_runS (As := [.ref (G.1 a1), .int x3]) (rest := []) X hI hl.1 (c_Rules_lose l G K a1 x3 h _ _ hv) C_Rules_49 rfl (Nat.le_of_ble_eq_true rfl) ⟨Nat.le_of_ble_eq_true rfl, Nat.le_of_ble_eq_true rfl, Nat.zero_le _, Nat.zero_le _⟩ rfl d_Rules_apply_86) (fun H locs hI => ?_)
            refine lv_istore (lv' := [(4, .int v86), (0, .ref (G.1 a0)), (1, .ref (G.1 a1)), (2, .int x2), (3, .int x3)]) hx hb d_Rules_apply_89 hl (by decide) rfl (fun ls hl => ?_)
            refine lv_goto (tgt := 94) hx hb d_Rules_apply_91 (by decide) ?_
            exact r_Rules_apply_94 X a0 a1 v86 h86 hm hI (lv_sub hl [1, 2, 0] rfl)
          · replace hm := zif_f hs5_4 hm
            have he0 : (x2).toInt ≠ 0 := fun q => hs5_0 (Int32.toInt_inj.mp (q.trans (by decide)))
            have he1 : (x2).toInt ≠ 1 := fun q => hs5_1 (Int32.toInt_inj.mp (q.trans (by decide)))
            have he2 : (x2).toInt ≠ 2 := fun q => hs5_2 (Int32.toInt_inj.mp (q.trans (by decide)))
            have he3 : (x2).toInt ≠ 3 := fun q => hs5_3 (Int32.toInt_inj.mp (q.trans (by decide)))
            have he4 : (x2).toInt ≠ 4 := fun q => hs5_4 (Int32.toInt_inj.mp (q.trans (by decide)))
            refine lv_tableOut (tgt := 94) hx hb d_Rules_apply_5 (by omega) (by decide) ?_
            exact r_Rules_apply_94 X a0 a1 (-5 : Int32) h hm hI (lv_sub hl [1, 2, 0] rfl)
set_option maxHeartbeats 4000000 in
set_option maxRecDepth 100000 in
theorem c_Rules_apply (l : Launch) (G : zG) (K : Nat) (a0 : Nat) (a1 : Nat) (x2 : Int32) (x3 : Int32) (h : zH) (r : Int32) (h' : zH) (hm : m_Rules_apply a0 a1 x2 x3 h = some (r, h')) : zMi l G K y_Rules_apply prog_5_method_4_code 5 3 [.ref (G.1 a0), .ref (G.1 a1), .int x2, .int x3] h r h' := zMet (by decide +kernel) (Nat.le_of_ble_eq_true rfl) (fun p e s m below meth c ls X hI hl => r_Rules_apply_0 X a0 a1 x2 x3 h hm hI hl)
-- walk of AllHome.isOver
theorem d_Home_isOver_0 : decode prog_1_method_36_code 0 = .ok (.iconst 0, 1) := by decide +kernel
theorem d_Home_isOver_1 : decode prog_1_method_36_code 1 = .ok (.istore_n 1, 1) := by decide +kernel
theorem d_Home_isOver_2 : decode prog_1_method_36_code 2 = .ok (.iload_n 1, 1) := by decide +kernel
theorem d_Home_isOver_3 : decode prog_1_method_36_code 3 = .ok (.bipush 6, 2) := by decide +kernel
theorem d_Home_isOver_5 : decode prog_1_method_36_code 5 = .ok (.if_icmp .ge 20, 3) := by decide +kernel
theorem d_Home_isOver_8 : decode prog_1_method_36_code 8 = .ok (.aload_n 0, 1) := by decide +kernel
theorem d_Home_isOver_9 : decode prog_1_method_36_code 9 = .ok (.iconst 0, 1) := by decide +kernel
theorem d_Home_isOver_10 : decode prog_1_method_36_code 10 = .ok (.iload_n 1, 1) := by decide +kernel
theorem d_Home_isOver_11 : decode prog_1_method_36_code 11 = .ok (.iadd, 1) := by decide +kernel
theorem d_Home_isOver_12 : decode prog_1_method_36_code 12 = .ok (.iaload, 1) := by decide +kernel
theorem d_Home_isOver_13 : decode prog_1_method_36_code 13 = .ok (.iconst 1, 1) := by decide +kernel
theorem d_Home_isOver_14 : decode prog_1_method_36_code 14 = .ok (.if_icmp .ne 5, 3) := by decide +kernel
theorem d_Home_isOver_17 : decode prog_1_method_36_code 17 = .ok (.iconst 0, 1) := by decide +kernel
theorem d_Home_isOver_18 : decode prog_1_method_36_code 18 = .ok (.ireturn, 1) := by decide +kernel
theorem d_Home_isOver_19 : decode prog_1_method_36_code 19 = .ok (.iinc 1 1, 3) := by decide +kernel
theorem d_Home_isOver_22 : decode prog_1_method_36_code 22 = .ok (.goto (-20), 3) := by decide +kernel
theorem d_Home_isOver_25 : decode prog_1_method_36_code 25 = .ok (.aload_n 0, 1) := by decide +kernel
theorem d_Home_isOver_26 : decode prog_1_method_36_code 26 = .ok (.bipush 18, 2) := by decide +kernel
theorem d_Home_isOver_28 : decode prog_1_method_36_code 28 = .ok (.iaload, 1) := by decide +kernel
theorem d_Home_isOver_29 : decode prog_1_method_36_code 29 = .ok (.ifCond .ne 7, 3) := by decide +kernel
theorem d_Home_isOver_32 : decode prog_1_method_36_code 32 = .ok (.iconst 1, 1) := by decide +kernel
theorem d_Home_isOver_33 : decode prog_1_method_36_code 33 = .ok (.goto 4, 3) := by decide +kernel
theorem d_Home_isOver_36 : decode prog_1_method_36_code 36 = .ok (.iconst 0, 1) := by decide +kernel
theorem d_Home_isOver_37 : decode prog_1_method_36_code 37 = .ok (.ireturn, 1) := by decide +kernel
set_option maxHeartbeats 4000000 in
set_option maxRecDepth 100000 in
theorem r_Home_isOver_2_b {p : Program} {l : Launch} {e : Env} {s : State} {m : MethodId} {args : Array Value} {below : List Frame} {meth : Method} {c : Code} {G : zG} {K : Nat} (X : zX p s m args meth c "AllHome" prog_1_method_36_code 2 (some .boolean) G (zA G K)) {r : Int32} (a0 : Nat) (h : zH) (k2 : (Int32) → Option Int32) (hk2 : ∀ (w : Int32), k2 w = some r → ∀ (H : Heap) (locs : List Loc) (ls : Array Slot), zI G K s (zA G K) H locs h → lv_has ls 2 [(0, .ref (G.1 a0)), (1, .int w)] → W p l e (zR 0) s m args below meth c H locs 0 0 (MQ below (zQi G K r h) args s 0 0 (zA G K)) (F0 m 2 ls [])) (u : Int32) (hm : g_Home_isOver_2 a0 h k2 u = some r) {H : Heap} {locs : List Loc} {ls : Array Slot} (hI : zI G K s (zA G K) H locs h) (hl : lv_has ls 2 [(0, .ref (G.1 a0)), (1, .int u)]) : W p l e (zR 0) s m args below meth c H locs 0 0 (MQ below (zQi G K r h) args s 0 0 (zA G K)) (F0 m 2 ls []) := by
  obtain ⟨hx, hb, hml, hown, hts, hr, hlocks, hK, hST, hNs⟩ := id X
  unfold g_Home_isOver_2 at hm
  refine lv_iload_n hx hb d_Home_isOver_2 rfl (lv_at hl 1 rfl) ?_
  refine lv_bipush (v := (nI 6)) hx hb d_Home_isOver_3 (by decide) ?_
  refine lv_icmp_ge (tgt := 25) hx hb d_Home_isOver_5 (by decide) (fun hc5 => ?_) (fun hc5 => ?_)
  · replace hm := zif_t hc5 hm
    refine lv_aload_n hx hb d_Home_isOver_25 rfl (lv_at hl 0 rfl) ?_
    refine lv_bipush (v := (nI 18)) hx hb d_Home_isOver_26 (by decide) ?_
    obtain ⟨v28, hv, hm⟩ := zbd hm
    refine z_iald X hI hv d_Home_isOver_28 ?_
    refine lv_if_ne (tgt := 36) hx hb d_Home_isOver_29 (by decide) (fun hc29 => ?_) (fun hc29 => ?_)
    · replace hm := zif_f hc29 hm
      refine lv_iconst (v := (nI 0)) hx hb d_Home_isOver_36 (by decide) ?_
      obtain rfl := zs1 hm
      exact z_zret X hI (by decide) d_Home_isOver_37
    · replace hm := zif_t hc29 hm
      refine lv_iconst (v := (nI 1)) hx hb d_Home_isOver_32 (by decide) ?_
      refine lv_goto (tgt := 37) hx hb d_Home_isOver_33 (by decide) ?_
      obtain rfl := zs1 hm
      exact z_zret X hI (by decide) d_Home_isOver_37
  · replace hm := zif_f hc5 hm
    refine lv_aload_n hx hb d_Home_isOver_8 rfl (lv_at hl 0 rfl) ?_
    refine lv_iconst (v := (nI 0)) hx hb d_Home_isOver_9 (by decide) ?_
    refine lv_iload_n hx hb d_Home_isOver_10 rfl (lv_at hl 1 rfl) ?_
    refine lv_iadd hx hb d_Home_isOver_11 ?_
    obtain ⟨v12, hv, hm⟩ := zbd hm
    refine z_iald X hI hv d_Home_isOver_12 ?_
    refine lv_iconst (v := (nI 1)) hx hb d_Home_isOver_13 (by decide) ?_
    refine lv_icmp_ne (tgt := 19) hx hb d_Home_isOver_14 (by decide) (fun hc14 => ?_) (fun hc14 => ?_)
    · replace hm := zif_f hc14 hm
      refine lv_iinc (v := (u + (nI 1))) (lv' := [(1, .int (u + (nI 1))), (0, .ref (G.1 a0))]) hx hb d_Home_isOver_19 hl (k := 1) rfl (congrArg (fun z => u + z) (show Int32.ofInt (1) = (nI 1) by decide)) (by decide) rfl (fun ls hl => ?_)
      refine lv_goto (tgt := 2) hx hb d_Home_isOver_22 (by decide) ?_
      obtain ⟨g0, e0⟩ : ∃ z, z = (u + (nI 1)) := ⟨_, rfl⟩
      rw [← e0] at hm hl
      exact hk2 g0 hm _ _ _ hI (lv_sub hl [1, 0] rfl)
    · replace hm := zif_t hc14 hm
      refine lv_iconst (v := (nI 0)) hx hb d_Home_isOver_17 (by decide) ?_
      obtain rfl := zs1 hm
      exact z_zret X hI (by decide) d_Home_isOver_18
theorem r_Home_isOver_2 {p : Program} {l : Launch} {e : Env} {s : State} {m : MethodId} {args : Array Value} {below : List Frame} {meth : Method} {c : Code} {G : zG} {K : Nat} (X : zX p s m args meth c "AllHome" prog_1_method_36_code 2 (some .boolean) G (zA G K)) {r : Int32} (a0 : Nat) (h : zH) : ∀ (n : Nat) (w : Int32), zloop (g_Home_isOver_2 a0 h) n w = some r → ∀ (H : Heap) (locs : List Loc) (ls : Array Slot), zI G K s (zA G K) H locs h → lv_has ls 2 [(0, .ref (G.1 a0)), (1, .int w)] → W p l e (zR 0) s m args below meth c H locs 0 0 (MQ below (zQi G K r h) args s 0 0 (zA G K)) (F0 m 2 ls []) := by
  intro n
  induction n with
  | zero => intro w hm; cases hm
  | succ n ih => intro w hm H locs ls hI hl; exact r_Home_isOver_2_b X a0 h (zloop (g_Home_isOver_2 a0 h) n) ih w (zls hm) hI hl
set_option maxHeartbeats 4000000 in
set_option maxRecDepth 100000 in
theorem r_Home_isOver_0 {p : Program} {l : Launch} {e : Env} {s : State} {m : MethodId} {args : Array Value} {below : List Frame} {meth : Method} {c : Code} {G : zG} {K : Nat} (X : zX p s m args meth c "AllHome" prog_1_method_36_code 2 (some .boolean) G (zA G K)) {r : Int32} (a0 : Nat) (h : zH) (hm : m_Home_isOver a0 h = some r) {H : Heap} {locs : List Loc} {ls : Array Slot} (hI : zI G K s (zA G K) H locs h) (hl : lv_has ls 2 [(0, .ref (G.1 a0))]) : W p l e (zR 0) s m args below meth c H locs 0 0 (MQ below (zQi G K r h) args s 0 0 (zA G K)) (F0 m 0 ls []) := by
  obtain ⟨hx, hb, hml, hown, hts, hr, hlocks, hK, hST, hNs⟩ := id X
  unfold m_Home_isOver at hm
  refine lv_iconst (v := (nI 0)) hx hb d_Home_isOver_0 (by decide) ?_
  refine lv_istore_n (lv' := [(1, .int (nI 0)), (0, .ref (G.1 a0))]) hx hb d_Home_isOver_1 rfl hl (by decide) rfl (fun ls hl => ?_)
  exact r_Home_isOver_2 X a0 h zN (nI 0) hm _ _ _ hI (lv_sub hl [1, 0] rfl)
set_option maxHeartbeats 4000000 in
set_option maxRecDepth 100000 in
theorem c_Home_isOver (l : Launch) (G : zG) (K : Nat) (a0 : Nat) (h : zH) (r : Int32) (hm : m_Home_isOver a0 h = some r) : zMz l G K y_Home_isOver prog_1_method_36_code 2 0 [.ref (G.1 a0)] h r h := zMet (by decide +kernel) (Nat.le_of_ble_eq_true rfl) (fun p e s m below meth c ls X hI hl => r_Home_isOver_0 X a0 h hm hI hl)
-- walk of AllHome$Run.advance
theorem d_Run_advance_0 : decode prog_6_method_5_code 0 = .ok (.aload_n 0, 1) := by decide +kernel
theorem d_Run_advance_1 : decode prog_6_method_5_code 1 = .ok (.getfield 9, 3) := by decide +kernel
theorem d_Run_advance_4 : decode prog_6_method_5_code 4 = .ok (.iconst 0, 1) := by decide +kernel
theorem d_Run_advance_5 : decode prog_6_method_5_code 5 = .ok (.aload_n 1, 1) := by decide +kernel
theorem d_Run_advance_6 : decode prog_6_method_5_code 6 = .ok (.iconst 0, 1) := by decide +kernel
theorem d_Run_advance_7 : decode prog_6_method_5_code 7 = .ok (.bipush 123, 2) := by decide +kernel
theorem d_Run_advance_9 : decode prog_6_method_5_code 9 = .ok (.invokestatic 46, 3) := by decide +kernel
theorem d_Run_advance_12 : decode prog_6_method_5_code 12 = .ok (.aload_n 0, 1) := by decide +kernel
theorem d_Run_advance_13 : decode prog_6_method_5_code 13 = .ok (.getfield 20, 3) := by decide +kernel
theorem d_Run_advance_16 : decode prog_6_method_5_code 16 = .ok (.aload_n 1, 1) := by decide +kernel
theorem d_Run_advance_17 : decode prog_6_method_5_code 17 = .ok (.iload_n 2, 1) := by decide +kernel
theorem d_Run_advance_18 : decode prog_6_method_5_code 18 = .ok (.iload_n 3, 1) := by decide +kernel
theorem d_Run_advance_19 : decode prog_6_method_5_code 19 = .ok (.invokevirtual 52, 3) := by decide +kernel
theorem d_Run_advance_22 : decode prog_6_method_5_code 22 = .ok (.istore 4, 2) := by decide +kernel
theorem d_Run_advance_24 : decode prog_6_method_5_code 24 = .ok (.iload 4, 2) := by decide +kernel
theorem d_Run_advance_26 : decode prog_6_method_5_code 26 = .ok (.iconst 1, 1) := by decide +kernel
theorem d_Run_advance_27 : decode prog_6_method_5_code 27 = .ok (.if_icmp .eq 6, 3) := by decide +kernel
theorem d_Run_advance_30 : decode prog_6_method_5_code 30 = .ok (.iload 4, 2) := by decide +kernel
theorem d_Run_advance_32 : decode prog_6_method_5_code 32 = .ok (.ireturn, 1) := by decide +kernel
theorem d_Run_advance_33 : decode prog_6_method_5_code 33 = .ok (.aload_n 1, 1) := by decide +kernel
theorem d_Run_advance_34 : decode prog_6_method_5_code 34 = .ok (.iconst 0, 1) := by decide +kernel
theorem d_Run_advance_35 : decode prog_6_method_5_code 35 = .ok (.aload_n 0, 1) := by decide +kernel
theorem d_Run_advance_36 : decode prog_6_method_5_code 36 = .ok (.getfield 9, 3) := by decide +kernel
theorem d_Run_advance_39 : decode prog_6_method_5_code 39 = .ok (.iconst 0, 1) := by decide +kernel
theorem d_Run_advance_40 : decode prog_6_method_5_code 40 = .ok (.bipush 123, 2) := by decide +kernel
theorem d_Run_advance_42 : decode prog_6_method_5_code 42 = .ok (.invokestatic 46, 3) := by decide +kernel
theorem d_Run_advance_45 : decode prog_6_method_5_code 45 = .ok (.aload_n 0, 1) := by decide +kernel
theorem d_Run_advance_46 : decode prog_6_method_5_code 46 = .ok (.dup, 1) := by decide +kernel
theorem d_Run_advance_47 : decode prog_6_method_5_code 47 = .ok (.getfield 32, 3) := by decide +kernel
theorem d_Run_advance_50 : decode prog_6_method_5_code 50 = .ok (.iconst 1, 1) := by decide +kernel
theorem d_Run_advance_51 : decode prog_6_method_5_code 51 = .ok (.iadd, 1) := by decide +kernel
theorem d_Run_advance_52 : decode prog_6_method_5_code 52 = .ok (.putfield 32, 3) := by decide +kernel
theorem d_Run_advance_55 : decode prog_6_method_5_code 55 = .ok (.aload_n 0, 1) := by decide +kernel
theorem d_Run_advance_56 : decode prog_6_method_5_code 56 = .ok (.getfield 9, 3) := by decide +kernel
theorem d_Run_advance_59 : decode prog_6_method_5_code 59 = .ok (.bipush 120, 2) := by decide +kernel
theorem d_Run_advance_61 : decode prog_6_method_5_code 61 = .ok (.iaload, 1) := by decide +kernel
theorem d_Run_advance_62 : decode prog_6_method_5_code 62 = .ok (.iconst 1, 1) := by decide +kernel
theorem d_Run_advance_63 : decode prog_6_method_5_code 63 = .ok (.if_icmp .ne 20, 3) := by decide +kernel
theorem d_Run_advance_66 : decode prog_6_method_5_code 66 = .ok (.aload_n 0, 1) := by decide +kernel
theorem d_Run_advance_67 : decode prog_6_method_5_code 67 = .ok (.getfield 35, 3) := by decide +kernel
theorem d_Run_advance_70 : decode prog_6_method_5_code 70 = .ok (.bipush (-2), 2) := by decide +kernel
theorem d_Run_advance_72 : decode prog_6_method_5_code 72 = .ok (.if_icmp .ne 11, 3) := by decide +kernel
theorem d_Run_advance_75 : decode prog_6_method_5_code 75 = .ok (.aload_n 0, 1) := by decide +kernel
theorem d_Run_advance_76 : decode prog_6_method_5_code 76 = .ok (.aload_n 0, 1) := by decide +kernel
theorem d_Run_advance_77 : decode prog_6_method_5_code 77 = .ok (.getfield 32, 3) := by decide +kernel
theorem d_Run_advance_80 : decode prog_6_method_5_code 80 = .ok (.putfield 35, 3) := by decide +kernel
theorem d_Run_advance_83 : decode prog_6_method_5_code 83 = .ok (.aload_n 0, 1) := by decide +kernel
theorem d_Run_advance_84 : decode prog_6_method_5_code 84 = .ok (.getfield 9, 3) := by decide +kernel
theorem d_Run_advance_87 : decode prog_6_method_5_code 87 = .ok (.invokestatic 56, 3) := by decide +kernel
theorem d_Run_advance_90 : decode prog_6_method_5_code 90 = .ok (.ifCond .ne 12, 3) := by decide +kernel
theorem d_Run_advance_93 : decode prog_6_method_5_code 93 = .ok (.aload_n 0, 1) := by decide +kernel
theorem d_Run_advance_94 : decode prog_6_method_5_code 94 = .ok (.bipush (-2), 2) := by decide +kernel
theorem d_Run_advance_96 : decode prog_6_method_5_code 96 = .ok (.putfield 38, 3) := by decide +kernel
theorem d_Run_advance_99 : decode prog_6_method_5_code 99 = .ok (.goto 20, 3) := by decide +kernel
theorem d_Run_advance_102 : decode prog_6_method_5_code 102 = .ok (.aload_n 0, 1) := by decide +kernel
theorem d_Run_advance_103 : decode prog_6_method_5_code 103 = .ok (.getfield 38, 3) := by decide +kernel
theorem d_Run_advance_106 : decode prog_6_method_5_code 106 = .ok (.bipush (-2), 2) := by decide +kernel
theorem d_Run_advance_108 : decode prog_6_method_5_code 108 = .ok (.if_icmp .ne 11, 3) := by decide +kernel
theorem d_Run_advance_111 : decode prog_6_method_5_code 111 = .ok (.aload_n 0, 1) := by decide +kernel
theorem d_Run_advance_112 : decode prog_6_method_5_code 112 = .ok (.aload_n 0, 1) := by decide +kernel
theorem d_Run_advance_113 : decode prog_6_method_5_code 113 = .ok (.getfield 32, 3) := by decide +kernel
theorem d_Run_advance_116 : decode prog_6_method_5_code 116 = .ok (.putfield 38, 3) := by decide +kernel
theorem d_Run_advance_119 : decode prog_6_method_5_code 119 = .ok (.aload_n 0, 1) := by decide +kernel
theorem d_Run_advance_120 : decode prog_6_method_5_code 120 = .ok (.getfield 32, 3) := by decide +kernel
theorem d_Run_advance_123 : decode prog_6_method_5_code 123 = .ok (.ireturn, 1) := by decide +kernel
set_option maxHeartbeats 4000000 in
set_option maxRecDepth 100000 in
theorem r_Run_advance_83 {p : Program} {l : Launch} {e : Env} {s : State} {m : MethodId} {args : Array Value} {below : List Frame} {meth : Method} {c : Code} {G : zG} {K : Nat} (X : zX p s m args meth c "AllHome$Run" prog_6_method_5_code 5 (some .int) G (zA G K)) {r : Int32} {h' : zH} (a0 : Nat) (h : zH) (hm : g_Run_advance_83 a0 h = some (r, h')) {H : Heap} {locs : List Loc} {ls : Array Slot} (hI : zI G K s (zA G K) H locs h) (hl : lv_has ls 5 [(0, .ref (G.1 a0))]) : W p l e (zR 4) s m args below meth c H locs 0 0 (MQ below (zQi G K r h') args s 0 0 (zA G K)) (F0 m 83 ls []) := by
  obtain ⟨hx, hb, hml, hown, hts, hr, hlocks, hK, hST, hNs⟩ := id X
  unfold g_Run_advance_83 at hm
  refine lv_aload_n hx hb d_Run_advance_83 rfl (lv_at hl 0 rfl) ?_
  obtain ⟨v84, hv, hm⟩ := zbd hm
  refine z_getR X hI F_Run_9 hv d_Run_advance_84 ?_
  obtain ⟨v87, hv, hm⟩ := zbd hm
  refine z_ci hI (z_runN (As := [.ref (G.1 v84)]) (rest := []) X hI hl.1 (c_Home_isOver l G K v84 h _ hv) C_Run_56 rfl (Nat.le_of_ble_eq_true rfl) ⟨Nat.le_of_ble_eq_true rfl, Nat.le_of_ble_eq_true rfl, Nat.zero_le _, Nat.zero_le _⟩ rfl d_Run_advance_87) (fun H locs hI => ?_)
  refine lv_if_ne (tgt := 102) hx hb d_Run_advance_90 (by decide) (fun hc90 => ?_) (fun hc90 => ?_)
  · replace hm := zif_f hc90 hm
    refine lv_aload_n hx hb d_Run_advance_102 rfl (lv_at hl 0 rfl) ?_
    obtain ⟨v103, hv, hm⟩ := zbd hm
    refine z_getI X hI F_Run_38 hv d_Run_advance_103 ?_
    refine lv_bipush (v := (-2 : Int32)) hx hb d_Run_advance_106 (by decide) ?_
    refine lv_icmp_ne (tgt := 119) hx hb d_Run_advance_108 (by decide) (fun hc108 => ?_) (fun hc108 => ?_)
    · replace hm := zif_f hc108 hm
      refine lv_aload_n hx hb d_Run_advance_119 rfl (lv_at hl 0 rfl) ?_
      obtain ⟨v120, hv, hm⟩ := zbd hm
      refine z_getI X hI F_Run_32 hv d_Run_advance_120 ?_
      obtain ⟨rfl, rfl⟩ := zs2 hm
      exact z_iret X hI d_Run_advance_123
    · replace hm := zif_t hc108 hm
      refine lv_aload_n hx hb d_Run_advance_111 rfl (lv_at hl 0 rfl) ?_
      refine lv_aload_n hx hb d_Run_advance_112 rfl (lv_at hl 0 rfl) ?_
      obtain ⟨v113, hv, hm⟩ := zbd hm
      refine z_getI X hI F_Run_32 hv d_Run_advance_113 ?_
      obtain ⟨h116, hv, hm⟩ := zbd hm
      refine z_putI X hI P_Run_38 hv d_Run_advance_116 (fun H locs hI => ?_)
      refine lv_aload_n hx hb d_Run_advance_119 rfl (lv_at hl 0 rfl) ?_
      obtain ⟨v120, hv, hm⟩ := zbd hm
      refine z_getI X hI F_Run_32 hv d_Run_advance_120 ?_
      obtain ⟨rfl, rfl⟩ := zs2 hm
      exact z_iret X hI d_Run_advance_123
  · replace hm := zif_t hc90 hm
    refine lv_aload_n hx hb d_Run_advance_93 rfl (lv_at hl 0 rfl) ?_
    refine lv_bipush (v := (-2 : Int32)) hx hb d_Run_advance_94 (by decide) ?_
    obtain ⟨h96, hv, hm⟩ := zbd hm
    refine z_putI X hI P_Run_38 hv d_Run_advance_96 (fun H locs hI => ?_)
    refine lv_goto (tgt := 119) hx hb d_Run_advance_99 (by decide) ?_
    refine lv_aload_n hx hb d_Run_advance_119 rfl (lv_at hl 0 rfl) ?_
    obtain ⟨v120, hv, hm⟩ := zbd hm
    refine z_getI X hI F_Run_32 hv d_Run_advance_120 ?_
    obtain ⟨rfl, rfl⟩ := zs2 hm
    exact z_iret X hI d_Run_advance_123
set_option maxHeartbeats 4000000 in
set_option maxRecDepth 100000 in
theorem r_Run_advance_0 {p : Program} {l : Launch} {e : Env} {s : State} {m : MethodId} {args : Array Value} {below : List Frame} {meth : Method} {c : Code} {G : zG} {K : Nat} (X : zX p s m args meth c "AllHome$Run" prog_6_method_5_code 5 (some .int) G (zA G K)) {r : Int32} {h' : zH} (a0 : Nat) (a1 : Nat) (x2 : Int32) (x3 : Int32) (h : zH) (hm : m_Run_advance a0 a1 x2 x3 h = some (r, h')) {H : Heap} {locs : List Loc} {ls : Array Slot} (hI : zI G K s (zA G K) H locs h) (hl : lv_has ls 5 [(0, .ref (G.1 a0)), (1, .ref (G.1 a1)), (2, .int x2), (3, .int x3)]) : W p l e (zR 4) s m args below meth c H locs 0 0 (MQ below (zQi G K r h') args s 0 0 (zA G K)) (F0 m 0 ls []) := by
  obtain ⟨hx, hb, hml, hown, hts, hr, hlocks, hK, hST, hNs⟩ := id X
  unfold m_Run_advance at hm
  refine lv_aload_n hx hb d_Run_advance_0 rfl (lv_at hl 0 rfl) ?_
  obtain ⟨v1, hv, hm⟩ := zbd hm
  refine z_getR X hI F_Run_9 hv d_Run_advance_1 ?_
  refine lv_iconst (v := (nI 0)) hx hb d_Run_advance_4 (by decide) ?_
  refine lv_aload_n hx hb d_Run_advance_5 rfl (lv_at hl 1 rfl) ?_
  refine lv_iconst (v := (nI 0)) hx hb d_Run_advance_6 (by decide) ?_
  refine lv_bipush (v := (nI 123)) hx hb d_Run_advance_7 (by decide) ?_
  obtain ⟨h9, hv, hm⟩ := zbd hm
  refine z_cpI X hI hl.1 kw311 kw313 kw312 kw11 hv ⟨Nat.le_of_ble_eq_true rfl, Nat.le_of_ble_eq_true rfl⟩ d_Run_advance_9 (fun H locs hI => ?_)
  refine lv_aload_n hx hb d_Run_advance_12 rfl (lv_at hl 0 rfl) ?_
  obtain ⟨v13, hv, hm⟩ := zbd hm
  refine z_getR X hI F_Run_20 hv d_Run_advance_13 ?_
  refine lv_aload_n hx hb d_Run_advance_16 rfl (lv_at hl 1 rfl) ?_
  refine lv_iload_n hx hb d_Run_advance_17 rfl (lv_at hl 2 rfl) ?_
  refine lv_iload_n hx hb d_Run_advance_18 rfl (lv_at hl 3 rfl) ?_
  obtain ⟨v19, h19, hv, hm⟩ := zb2_at hm
  obtain ⟨hq, hv⟩ := zcv_at hv
  refine z_ci hI (z_runV (As := [.ref (G.1 a1), .int x2, .int x3]) (rest := []) X hI hl.1 (c_Rules_apply l G K v13 a1 x2 x3 h9 _ _ hv) C_Run_52 rfl hq (Nat.le_of_ble_eq_true rfl) ⟨Nat.le_of_ble_eq_true rfl, Nat.le_of_ble_eq_true rfl, Nat.zero_le _, Nat.zero_le _⟩ rfl d_Run_advance_19) (fun H locs hI => ?_)
  refine lv_istore (lv' := [(4, .int v19), (0, .ref (G.1 a0)), (1, .ref (G.1 a1)), (2, .int x2), (3, .int x3)]) hx hb d_Run_advance_22 hl (by decide) rfl (fun ls hl => ?_)
  refine lv_iload hx hb d_Run_advance_24 (lv_at hl 0 rfl) ?_
  refine lv_iconst (v := (nI 1)) hx hb d_Run_advance_26 (by decide) ?_
  refine lv_icmp_eq (tgt := 33) hx hb d_Run_advance_27 (by decide) (fun hc27 => ?_) (fun hc27 => ?_)
  · replace hm := zif_t hc27 hm
    refine lv_aload_n hx hb d_Run_advance_33 rfl (lv_at hl 2 rfl) ?_
    refine lv_iconst (v := (nI 0)) hx hb d_Run_advance_34 (by decide) ?_
    refine lv_aload_n hx hb d_Run_advance_35 rfl (lv_at hl 1 rfl) ?_
    obtain ⟨v36, hv, hm⟩ := zbd hm
    refine z_getR X hI F_Run_9 hv d_Run_advance_36 ?_
    refine lv_iconst (v := (nI 0)) hx hb d_Run_advance_39 (by decide) ?_
    refine lv_bipush (v := (nI 123)) hx hb d_Run_advance_40 (by decide) ?_
    obtain ⟨h42, hv, hm⟩ := zbd hm
    refine z_cpI X hI hl.1 kw311 kw313 kw312 kw11 hv ⟨Nat.le_of_ble_eq_true rfl, Nat.le_of_ble_eq_true rfl⟩ d_Run_advance_42 (fun H locs hI => ?_)
    refine lv_aload_n hx hb d_Run_advance_45 rfl (lv_at hl 1 rfl) ?_
    refine lv_dup hx hb d_Run_advance_46 rfl ?_
    obtain ⟨v47, hv, hm⟩ := zbd hm
    refine z_getI X hI F_Run_32 hv d_Run_advance_47 ?_
    refine lv_iconst (v := (nI 1)) hx hb d_Run_advance_50 (by decide) ?_
    refine lv_iadd hx hb d_Run_advance_51 ?_
    obtain ⟨h52, hv, hm⟩ := zbd hm
    refine z_putI X hI P_Run_32 hv d_Run_advance_52 (fun H locs hI => ?_)
    refine lv_aload_n hx hb d_Run_advance_55 rfl (lv_at hl 1 rfl) ?_
    obtain ⟨v56, hv, hm⟩ := zbd hm
    refine z_getR X hI F_Run_9 hv d_Run_advance_56 ?_
    refine lv_bipush (v := (nI 120)) hx hb d_Run_advance_59 (by decide) ?_
    obtain ⟨v61, hv, hm⟩ := zbd hm
    refine z_iald X hI hv d_Run_advance_61 ?_
    refine lv_iconst (v := (nI 1)) hx hb d_Run_advance_62 (by decide) ?_
    refine lv_icmp_ne (tgt := 83) hx hb d_Run_advance_63 (by decide) (fun hc63 => ?_) (fun hc63 => ?_)
    · replace hm := zif_f hc63 hm
      exact r_Run_advance_83 X a0 h52 hm hI (lv_sub hl [1] rfl)
    · replace hm := zif_t hc63 hm
      refine lv_aload_n hx hb d_Run_advance_66 rfl (lv_at hl 1 rfl) ?_
      obtain ⟨v67, hv, hm⟩ := zbd hm
      refine z_getI X hI F_Run_35 hv d_Run_advance_67 ?_
      refine lv_bipush (v := (-2 : Int32)) hx hb d_Run_advance_70 (by decide) ?_
      refine lv_icmp_ne (tgt := 83) hx hb d_Run_advance_72 (by decide) (fun hc72 => ?_) (fun hc72 => ?_)
      · replace hm := zif_f hc72 hm
        exact r_Run_advance_83 X a0 h52 hm hI (lv_sub hl [1] rfl)
      · replace hm := zif_t hc72 hm
        refine lv_aload_n hx hb d_Run_advance_75 rfl (lv_at hl 1 rfl) ?_
        refine lv_aload_n hx hb d_Run_advance_76 rfl (lv_at hl 1 rfl) ?_
        obtain ⟨v77, hv, hm⟩ := zbd hm
        refine z_getI X hI F_Run_32 hv d_Run_advance_77 ?_
        obtain ⟨h80, hv, hm⟩ := zbd hm
        refine z_putI X hI P_Run_35 hv d_Run_advance_80 (fun H locs hI => ?_)
        exact r_Run_advance_83 X a0 h80 hm hI (lv_sub hl [1] rfl)
  · replace hm := zif_f hc27 hm
    refine lv_iload hx hb d_Run_advance_30 (lv_at hl 0 rfl) ?_
    obtain ⟨rfl, rfl⟩ := zs2 hm
    exact z_iret X hI d_Run_advance_32
set_option maxHeartbeats 4000000 in
set_option maxRecDepth 100000 in
theorem c_Run_advance (l : Launch) (G : zG) (K : Nat) (a0 : Nat) (a1 : Nat) (x2 : Int32) (x3 : Int32) (h : zH) (r : Int32) (h' : zH) (hm : m_Run_advance a0 a1 x2 x3 h = some (r, h')) : zMi l G K y_Run_advance prog_6_method_5_code 5 4 [.ref (G.1 a0), .ref (G.1 a1), .int x2, .int x3] h r h' := zMet (by decide +kernel) (Nat.le_of_ble_eq_true rfl) (fun p e s m below meth c ls X hI hl => r_Run_advance_0 X a0 a1 x2 x3 h hm hI hl)
-- walk of AllHome.step
theorem d_Home_step_0 : decode prog_1_method_9_code 0 = .ok (.aload_n 0, 1) := by decide +kernel
theorem d_Home_step_1 : decode prog_1_method_9_code 1 = .ok (.iload_n 1, 1) := by decide +kernel
theorem d_Home_step_2 : decode prog_1_method_9_code 2 = .ok (.invokevirtual 106, 3) := by decide +kernel
theorem d_Home_step_5 : decode prog_1_method_9_code 5 = .ok (.ifCond .eq 12, 3) := by decide +kernel
theorem d_Home_step_8 : decode prog_1_method_9_code 8 = .ok (.iload_n 2, 1) := by decide +kernel
theorem d_Home_step_9 : decode prog_1_method_9_code 9 = .ok (.ifCond .lt 8, 3) := by decide +kernel
theorem d_Home_step_12 : decode prog_1_method_9_code 12 = .ok (.iload_n 2, 1) := by decide +kernel
theorem d_Home_step_13 : decode prog_1_method_9_code 13 = .ok (.iconst 4, 1) := by decide +kernel
theorem d_Home_step_14 : decode prog_1_method_9_code 14 = .ok (.if_icmp .le 5, 3) := by decide +kernel
theorem d_Home_step_17 : decode prog_1_method_9_code 17 = .ok (.iconst (-1), 1) := by decide +kernel
theorem d_Home_step_18 : decode prog_1_method_9_code 18 = .ok (.ireturn, 1) := by decide +kernel
theorem d_Home_step_19 : decode prog_1_method_9_code 19 = .ok (.aload_n 0, 1) := by decide +kernel
theorem d_Home_step_20 : decode prog_1_method_9_code 20 = .ok (.getfield 25, 3) := by decide +kernel
theorem d_Home_step_23 : decode prog_1_method_9_code 23 = .ok (.iload_n 1, 1) := by decide +kernel
theorem d_Home_step_24 : decode prog_1_method_9_code 24 = .ok (.aaload, 1) := by decide +kernel
theorem d_Home_step_25 : decode prog_1_method_9_code 25 = .ok (.aload_n 0, 1) := by decide +kernel
theorem d_Home_step_26 : decode prog_1_method_9_code 26 = .ok (.getfield 29, 3) := by decide +kernel
theorem d_Home_step_29 : decode prog_1_method_9_code 29 = .ok (.iload_n 2, 1) := by decide +kernel
theorem d_Home_step_30 : decode prog_1_method_9_code 30 = .ok (.iload_n 3, 1) := by decide +kernel
theorem d_Home_step_31 : decode prog_1_method_9_code 31 = .ok (.invokevirtual 109, 3) := by decide +kernel
theorem d_Home_step_34 : decode prog_1_method_9_code 34 = .ok (.ireturn, 1) := by decide +kernel
set_option maxHeartbeats 4000000 in
set_option maxRecDepth 100000 in
theorem r_Home_step_0 {p : Program} {l : Launch} {e : Env} {s : State} {m : MethodId} {args : Array Value} {below : List Frame} {meth : Method} {c : Code} {G : zG} {K : Nat} (X : zX p s m args meth c "AllHome" prog_1_method_9_code 4 (some .int) G (zA G K)) {r : Int32} {h' : zH} (a0 : Nat) (x1 : Int32) (x2 : Int32) (x3 : Int32) (h : zH) (hm : m_Home_step a0 x1 x2 x3 h = some (r, h')) {H : Heap} {locs : List Loc} {ls : Array Slot} (hI : zI G K s (zA G K) H locs h) (hl : lv_has ls 4 [(0, .ref (G.1 a0)), (1, .int x1), (2, .int x2), (3, .int x3)]) : W p l e (zR 5) s m args below meth c H locs 0 0 (MQ below (zQi G K r h') args s 0 0 (zA G K)) (F0 m 0 ls []) := by
  obtain ⟨hx, hb, hml, hown, hts, hr, hlocks, hK, hST, hNs⟩ := id X
  unfold m_Home_step at hm
  refine lv_aload_n hx hb d_Home_step_0 rfl (lv_at hl 0 rfl) ?_
  refine lv_iload_n hx hb d_Home_step_1 rfl (lv_at hl 1 rfl) ?_
  obtain ⟨v2, hv, hm⟩ := zbd hm
  obtain ⟨hq, hv⟩ := zcv_at hv
  refine z_ci hI (z_runV (As := [.int x1]) (rest := []) X hI hl.1 (c_Home_isRun l G K a0 x1 h _ hv) C_Home_106 rfl hq (Nat.le_of_ble_eq_true rfl) ⟨Nat.le_of_ble_eq_true rfl, Nat.le_of_ble_eq_true rfl, Nat.zero_le _, Nat.zero_le _⟩ rfl d_Home_step_2) (fun H locs hI => ?_)
  refine lv_if_eq (tgt := 17) hx hb d_Home_step_5 (by decide) (fun hc5 => ?_) (fun hc5 => ?_)
  · replace hm := zif_t hc5 hm
    refine lv_iconst (v := (-1 : Int32)) hx hb d_Home_step_17 (by decide) ?_
    obtain ⟨rfl, rfl⟩ := zs2 hm
    exact z_iret X hI d_Home_step_18
  · replace hm := zif_f hc5 hm
    refine lv_iload_n hx hb d_Home_step_8 rfl (lv_at hl 2 rfl) ?_
    refine lv_if_lt (tgt := 17) hx hb d_Home_step_9 (by decide) (fun hc9 => ?_) (fun hc9 => ?_)
    · replace hm := zif_t hc9 hm
      refine lv_iconst (v := (-1 : Int32)) hx hb d_Home_step_17 (by decide) ?_
      obtain ⟨rfl, rfl⟩ := zs2 hm
      exact z_iret X hI d_Home_step_18
    · replace hm := zif_f hc9 hm
      refine lv_iload_n hx hb d_Home_step_12 rfl (lv_at hl 2 rfl) ?_
      refine lv_iconst (v := (nI 4)) hx hb d_Home_step_13 (by decide) ?_
      refine lv_icmp_le (tgt := 19) hx hb d_Home_step_14 (by decide) (fun hc14 => ?_) (fun hc14 => ?_)
      · replace hm := zif_t hc14 hm
        refine lv_aload_n hx hb d_Home_step_19 rfl (lv_at hl 0 rfl) ?_
        obtain ⟨v20, hv, hm⟩ := zbd hm
        refine z_getR X hI F_Home_25 hv d_Home_step_20 ?_
        refine lv_iload_n hx hb d_Home_step_23 rfl (lv_at hl 1 rfl) ?_
        obtain ⟨v24, hv, hm⟩ := zbd hm
        refine z_aald X hI 3 (.object "AllHome$Run") rfl rfl hv d_Home_step_24 ?_
        refine lv_aload_n hx hb d_Home_step_25 rfl (lv_at hl 0 rfl) ?_
        obtain ⟨v26, hv, hm⟩ := zbd hm
        refine z_getR X hI F_Home_29 hv d_Home_step_26 ?_
        refine lv_iload_n hx hb d_Home_step_29 rfl (lv_at hl 2 rfl) ?_
        refine lv_iload_n hx hb d_Home_step_30 rfl (lv_at hl 3 rfl) ?_
        obtain ⟨v31, h31, hv, hm⟩ := zb2_at hm
        obtain ⟨hq, hv⟩ := zcv_at hv
        refine z_ci hI (z_runV (As := [.ref (G.1 v26), .int x2, .int x3]) (rest := []) X hI hl.1 (c_Run_advance l G K v24 v26 x2 x3 h _ _ hv) C_Home_109 rfl hq (Nat.le_of_ble_eq_true rfl) ⟨Nat.le_of_ble_eq_true rfl, Nat.le_of_ble_eq_true rfl, Nat.zero_le _, Nat.zero_le _⟩ rfl d_Home_step_31) (fun H locs hI => ?_)
        obtain ⟨rfl, rfl⟩ := zs2 hm
        exact z_iret X hI d_Home_step_34
      · replace hm := zif_f hc14 hm
        refine lv_iconst (v := (-1 : Int32)) hx hb d_Home_step_17 (by decide) ?_
        obtain ⟨rfl, rfl⟩ := zs2 hm
        exact z_iret X hI d_Home_step_18
set_option maxHeartbeats 4000000 in
set_option maxRecDepth 100000 in
theorem c_Home_step (l : Launch) (G : zG) (K : Nat) (a0 : Nat) (x1 : Int32) (x2 : Int32) (x3 : Int32) (h : zH) (r : Int32) (h' : zH) (hm : m_Home_step a0 x1 x2 x3 h = some (r, h')) : zMi l G K y_Home_step prog_1_method_9_code 4 5 [.ref (G.1 a0), .int x1, .int x2, .int x3] h r h' := zMet (by decide +kernel) (Nat.le_of_ble_eq_true rfl) (fun p e s m below meth c ls X hI hl => r_Home_step_0 X a0 x1 x2 x3 h hm hI hl)
-- walk of AllHome.isShelf
theorem d_Home_isShelf_0 : decode prog_1_method_31_code 0 = .ok (.iload_n 0, 1) := by decide +kernel
theorem d_Home_isShelf_1 : decode prog_1_method_31_code 1 = .ok (.ifCond .lt 13, 3) := by decide +kernel
theorem d_Home_isShelf_4 : decode prog_1_method_31_code 4 = .ok (.iload_n 0, 1) := by decide +kernel
theorem d_Home_isShelf_5 : decode prog_1_method_31_code 5 = .ok (.bipush 6, 2) := by decide +kernel
theorem d_Home_isShelf_7 : decode prog_1_method_31_code 7 = .ok (.if_icmp .ge 7, 3) := by decide +kernel
theorem d_Home_isShelf_10 : decode prog_1_method_31_code 10 = .ok (.iconst 1, 1) := by decide +kernel
theorem d_Home_isShelf_11 : decode prog_1_method_31_code 11 = .ok (.goto 4, 3) := by decide +kernel
theorem d_Home_isShelf_14 : decode prog_1_method_31_code 14 = .ok (.iconst 0, 1) := by decide +kernel
theorem d_Home_isShelf_15 : decode prog_1_method_31_code 15 = .ok (.ireturn, 1) := by decide +kernel
set_option maxHeartbeats 4000000 in
set_option maxRecDepth 100000 in
theorem r_Home_isShelf_0 {p : Program} {l : Launch} {e : Env} {s : State} {m : MethodId} {args : Array Value} {below : List Frame} {meth : Method} {c : Code} {G : zG} {K : Nat} (X : zX p s m args meth c "AllHome" prog_1_method_31_code 1 (some .boolean) G (zA G K)) {r : Int32} (x0 : Int32) (h : zH) (hm : m_Home_isShelf x0 h = some r) {H : Heap} {locs : List Loc} {ls : Array Slot} (hI : zI G K s (zA G K) H locs h) (hl : lv_has ls 1 [(0, .int x0)]) : W p l e (zR 0) s m args below meth c H locs 0 0 (MQ below (zQi G K r h) args s 0 0 (zA G K)) (F0 m 0 ls []) := by
  obtain ⟨hx, hb, hml, hown, hts, hr, hlocks, hK, hST, hNs⟩ := id X
  unfold m_Home_isShelf at hm
  refine lv_iload_n hx hb d_Home_isShelf_0 rfl (lv_at hl 0 rfl) ?_
  refine lv_if_lt (tgt := 14) hx hb d_Home_isShelf_1 (by decide) (fun hc1 => ?_) (fun hc1 => ?_)
  · replace hm := zif_t hc1 hm
    refine lv_iconst (v := (nI 0)) hx hb d_Home_isShelf_14 (by decide) ?_
    obtain rfl := zs1 hm
    exact z_zret X hI (by decide) d_Home_isShelf_15
  · replace hm := zif_f hc1 hm
    refine lv_iload_n hx hb d_Home_isShelf_4 rfl (lv_at hl 0 rfl) ?_
    refine lv_bipush (v := (nI 6)) hx hb d_Home_isShelf_5 (by decide) ?_
    refine lv_icmp_ge (tgt := 14) hx hb d_Home_isShelf_7 (by decide) (fun hc7 => ?_) (fun hc7 => ?_)
    · replace hm := zif_t hc7 hm
      refine lv_iconst (v := (nI 0)) hx hb d_Home_isShelf_14 (by decide) ?_
      obtain rfl := zs1 hm
      exact z_zret X hI (by decide) d_Home_isShelf_15
    · replace hm := zif_f hc7 hm
      refine lv_iconst (v := (nI 1)) hx hb d_Home_isShelf_10 (by decide) ?_
      refine lv_goto (tgt := 15) hx hb d_Home_isShelf_11 (by decide) ?_
      obtain rfl := zs1 hm
      exact z_zret X hI (by decide) d_Home_isShelf_15
set_option maxHeartbeats 4000000 in
set_option maxRecDepth 100000 in
theorem c_Home_isShelf (l : Launch) (G : zG) (K : Nat) (x0 : Int32) (h : zH) (r : Int32) (hm : m_Home_isShelf x0 h = some r) : zMz l G K y_Home_isShelf prog_1_method_31_code 1 0 [.int x0] h r h := zMet (by decide +kernel) (Nat.le_of_ble_eq_true rfl) (fun p e s m below meth c ls X hI hl => r_Home_isShelf_0 X x0 h hm hI hl)
-- walk of AllHome$Shelf.isEmpty
theorem d_Shelf_isEmpty_0 : decode prog_7_method_4_code 0 = .ok (.aload_n 0, 1) := by decide +kernel
theorem d_Shelf_isEmpty_1 : decode prog_7_method_4_code 1 = .ok (.getfield 19, 3) := by decide +kernel
theorem d_Shelf_isEmpty_4 : decode prog_7_method_4_code 4 = .ok (.iconst (-1), 1) := by decide +kernel
theorem d_Shelf_isEmpty_5 : decode prog_7_method_4_code 5 = .ok (.if_icmp .ne 15, 3) := by decide +kernel
theorem d_Shelf_isEmpty_8 : decode prog_7_method_4_code 8 = .ok (.aload_n 0, 1) := by decide +kernel
theorem d_Shelf_isEmpty_9 : decode prog_7_method_4_code 9 = .ok (.getfield 15, 3) := by decide +kernel
theorem d_Shelf_isEmpty_12 : decode prog_7_method_4_code 12 = .ok (.iconst (-1), 1) := by decide +kernel
theorem d_Shelf_isEmpty_13 : decode prog_7_method_4_code 13 = .ok (.if_icmp .ne 7, 3) := by decide +kernel
theorem d_Shelf_isEmpty_16 : decode prog_7_method_4_code 16 = .ok (.iconst 1, 1) := by decide +kernel
theorem d_Shelf_isEmpty_17 : decode prog_7_method_4_code 17 = .ok (.goto 4, 3) := by decide +kernel
theorem d_Shelf_isEmpty_20 : decode prog_7_method_4_code 20 = .ok (.iconst 0, 1) := by decide +kernel
theorem d_Shelf_isEmpty_21 : decode prog_7_method_4_code 21 = .ok (.ireturn, 1) := by decide +kernel
set_option maxHeartbeats 4000000 in
set_option maxRecDepth 100000 in
theorem r_Shelf_isEmpty_0 {p : Program} {l : Launch} {e : Env} {s : State} {m : MethodId} {args : Array Value} {below : List Frame} {meth : Method} {c : Code} {G : zG} {K : Nat} (X : zX p s m args meth c "AllHome$Shelf" prog_7_method_4_code 1 (some .boolean) G (zA G K)) {r : Int32} (a0 : Nat) (h : zH) (hm : m_Shelf_isEmpty a0 h = some r) {H : Heap} {locs : List Loc} {ls : Array Slot} (hI : zI G K s (zA G K) H locs h) (hl : lv_has ls 1 [(0, .ref (G.1 a0))]) : W p l e (zR 0) s m args below meth c H locs 0 0 (MQ below (zQi G K r h) args s 0 0 (zA G K)) (F0 m 0 ls []) := by
  obtain ⟨hx, hb, hml, hown, hts, hr, hlocks, hK, hST, hNs⟩ := id X
  unfold m_Shelf_isEmpty at hm
  refine lv_aload_n hx hb d_Shelf_isEmpty_0 rfl (lv_at hl 0 rfl) ?_
  obtain ⟨v1, hv, hm⟩ := zbd hm
  refine z_getI X hI F_Shelf_19 hv d_Shelf_isEmpty_1 ?_
  refine lv_iconst (v := (-1 : Int32)) hx hb d_Shelf_isEmpty_4 (by decide) ?_
  refine lv_icmp_ne (tgt := 20) hx hb d_Shelf_isEmpty_5 (by decide) (fun hc5 => ?_) (fun hc5 => ?_)
  · replace hm := zif_f hc5 hm
    refine lv_iconst (v := (nI 0)) hx hb d_Shelf_isEmpty_20 (by decide) ?_
    obtain rfl := zs1 hm
    exact z_zret X hI (by decide) d_Shelf_isEmpty_21
  · replace hm := zif_t hc5 hm
    refine lv_aload_n hx hb d_Shelf_isEmpty_8 rfl (lv_at hl 0 rfl) ?_
    obtain ⟨v9, hv, hm⟩ := zbd hm
    refine z_getI X hI F_Shelf_15 hv d_Shelf_isEmpty_9 ?_
    refine lv_iconst (v := (-1 : Int32)) hx hb d_Shelf_isEmpty_12 (by decide) ?_
    refine lv_icmp_ne (tgt := 20) hx hb d_Shelf_isEmpty_13 (by decide) (fun hc13 => ?_) (fun hc13 => ?_)
    · replace hm := zif_f hc13 hm
      refine lv_iconst (v := (nI 0)) hx hb d_Shelf_isEmpty_20 (by decide) ?_
      obtain rfl := zs1 hm
      exact z_zret X hI (by decide) d_Shelf_isEmpty_21
    · replace hm := zif_t hc13 hm
      refine lv_iconst (v := (nI 1)) hx hb d_Shelf_isEmpty_16 (by decide) ?_
      refine lv_goto (tgt := 21) hx hb d_Shelf_isEmpty_17 (by decide) ?_
      obtain rfl := zs1 hm
      exact z_zret X hI (by decide) d_Shelf_isEmpty_21
set_option maxHeartbeats 4000000 in
set_option maxRecDepth 100000 in
theorem c_Shelf_isEmpty (l : Launch) (G : zG) (K : Nat) (a0 : Nat) (h : zH) (r : Int32) (hm : m_Shelf_isEmpty a0 h = some r) : zMz l G K y_Shelf_isEmpty prog_7_method_4_code 1 0 [.ref (G.1 a0)] h r h := zMet (by decide +kernel) (Nat.le_of_ble_eq_true rfl) (fun p e s m below meth c ls X hI hl => r_Shelf_isEmpty_0 X a0 h hm hI hl)
-- walk of AllHome$Shelf.isRowOf
theorem d_Shelf_isRowOf_0 : decode prog_7_method_6_code 0 = .ok (.aload_n 0, 1) := by decide +kernel
theorem d_Shelf_isRowOf_1 : decode prog_7_method_6_code 1 = .ok (.getfield 15, 3) := by decide +kernel
theorem d_Shelf_isRowOf_4 : decode prog_7_method_6_code 4 = .ok (.iload_n 1, 1) := by decide +kernel
theorem d_Shelf_isRowOf_5 : decode prog_7_method_6_code 5 = .ok (.if_icmp .ne 7, 3) := by decide +kernel
theorem d_Shelf_isRowOf_8 : decode prog_7_method_6_code 8 = .ok (.iconst 1, 1) := by decide +kernel
theorem d_Shelf_isRowOf_9 : decode prog_7_method_6_code 9 = .ok (.goto 4, 3) := by decide +kernel
theorem d_Shelf_isRowOf_12 : decode prog_7_method_6_code 12 = .ok (.iconst 0, 1) := by decide +kernel
theorem d_Shelf_isRowOf_13 : decode prog_7_method_6_code 13 = .ok (.ireturn, 1) := by decide +kernel
set_option maxHeartbeats 4000000 in
set_option maxRecDepth 100000 in
theorem r_Shelf_isRowOf_0 {p : Program} {l : Launch} {e : Env} {s : State} {m : MethodId} {args : Array Value} {below : List Frame} {meth : Method} {c : Code} {G : zG} {K : Nat} (X : zX p s m args meth c "AllHome$Shelf" prog_7_method_6_code 2 (some .boolean) G (zA G K)) {r : Int32} (a0 : Nat) (x1 : Int32) (h : zH) (hm : m_Shelf_isRowOf a0 x1 h = some r) {H : Heap} {locs : List Loc} {ls : Array Slot} (hI : zI G K s (zA G K) H locs h) (hl : lv_has ls 2 [(0, .ref (G.1 a0)), (1, .int x1)]) : W p l e (zR 0) s m args below meth c H locs 0 0 (MQ below (zQi G K r h) args s 0 0 (zA G K)) (F0 m 0 ls []) := by
  obtain ⟨hx, hb, hml, hown, hts, hr, hlocks, hK, hST, hNs⟩ := id X
  unfold m_Shelf_isRowOf at hm
  refine lv_aload_n hx hb d_Shelf_isRowOf_0 rfl (lv_at hl 0 rfl) ?_
  obtain ⟨v1, hv, hm⟩ := zbd hm
  refine z_getI X hI F_Shelf_15 hv d_Shelf_isRowOf_1 ?_
  refine lv_iload_n hx hb d_Shelf_isRowOf_4 rfl (lv_at hl 1 rfl) ?_
  refine lv_icmp_ne (tgt := 12) hx hb d_Shelf_isRowOf_5 (by decide) (fun hc5 => ?_) (fun hc5 => ?_)
  · replace hm := zif_f hc5 hm
    refine lv_iconst (v := (nI 0)) hx hb d_Shelf_isRowOf_12 (by decide) ?_
    obtain rfl := zs1 hm
    exact z_zret X hI (by decide) d_Shelf_isRowOf_13
  · replace hm := zif_t hc5 hm
    refine lv_iconst (v := (nI 1)) hx hb d_Shelf_isRowOf_8 (by decide) ?_
    refine lv_goto (tgt := 13) hx hb d_Shelf_isRowOf_9 (by decide) ?_
    obtain rfl := zs1 hm
    exact z_zret X hI (by decide) d_Shelf_isRowOf_13
set_option maxHeartbeats 4000000 in
set_option maxRecDepth 100000 in
theorem c_Shelf_isRowOf (l : Launch) (G : zG) (K : Nat) (a0 : Nat) (x1 : Int32) (h : zH) (r : Int32) (hm : m_Shelf_isRowOf a0 x1 h = some r) : zMz l G K y_Shelf_isRowOf prog_7_method_6_code 2 0 [.ref (G.1 a0), .int x1] h r h := zMet (by decide +kernel) (Nat.le_of_ble_eq_true rfl) (fun p e s m below meth c ls X hI hl => r_Shelf_isRowOf_0 X a0 x1 h hm hI hl)
-- walk of AllHome$Shelf.hasPlace
theorem d_Shelf_hasPlace_0 : decode prog_7_method_9_code 0 = .ok (.iload_n 1, 1) := by decide +kernel
theorem d_Shelf_hasPlace_1 : decode prog_7_method_9_code 1 = .ok (.ifCond .lt 15, 3) := by decide +kernel
theorem d_Shelf_hasPlace_4 : decode prog_7_method_9_code 4 = .ok (.iload_n 1, 1) := by decide +kernel
theorem d_Shelf_hasPlace_5 : decode prog_7_method_9_code 5 = .ok (.aload_n 0, 1) := by decide +kernel
theorem d_Shelf_hasPlace_6 : decode prog_7_method_9_code 6 = .ok (.getfield 22, 3) := by decide +kernel
theorem d_Shelf_hasPlace_9 : decode prog_7_method_9_code 9 = .ok (.if_icmp .ge 7, 3) := by decide +kernel
theorem d_Shelf_hasPlace_12 : decode prog_7_method_9_code 12 = .ok (.iconst 1, 1) := by decide +kernel
theorem d_Shelf_hasPlace_13 : decode prog_7_method_9_code 13 = .ok (.goto 4, 3) := by decide +kernel
theorem d_Shelf_hasPlace_16 : decode prog_7_method_9_code 16 = .ok (.iconst 0, 1) := by decide +kernel
theorem d_Shelf_hasPlace_17 : decode prog_7_method_9_code 17 = .ok (.ireturn, 1) := by decide +kernel
set_option maxHeartbeats 4000000 in
set_option maxRecDepth 100000 in
theorem r_Shelf_hasPlace_0 {p : Program} {l : Launch} {e : Env} {s : State} {m : MethodId} {args : Array Value} {below : List Frame} {meth : Method} {c : Code} {G : zG} {K : Nat} (X : zX p s m args meth c "AllHome$Shelf" prog_7_method_9_code 2 (some .boolean) G (zA G K)) {r : Int32} (a0 : Nat) (x1 : Int32) (h : zH) (hm : m_Shelf_hasPlace a0 x1 h = some r) {H : Heap} {locs : List Loc} {ls : Array Slot} (hI : zI G K s (zA G K) H locs h) (hl : lv_has ls 2 [(0, .ref (G.1 a0)), (1, .int x1)]) : W p l e (zR 0) s m args below meth c H locs 0 0 (MQ below (zQi G K r h) args s 0 0 (zA G K)) (F0 m 0 ls []) := by
  obtain ⟨hx, hb, hml, hown, hts, hr, hlocks, hK, hST, hNs⟩ := id X
  unfold m_Shelf_hasPlace at hm
  refine lv_iload_n hx hb d_Shelf_hasPlace_0 rfl (lv_at hl 1 rfl) ?_
  refine lv_if_lt (tgt := 16) hx hb d_Shelf_hasPlace_1 (by decide) (fun hc1 => ?_) (fun hc1 => ?_)
  · replace hm := zif_t hc1 hm
    refine lv_iconst (v := (nI 0)) hx hb d_Shelf_hasPlace_16 (by decide) ?_
    obtain rfl := zs1 hm
    exact z_zret X hI (by decide) d_Shelf_hasPlace_17
  · replace hm := zif_f hc1 hm
    refine lv_iload_n hx hb d_Shelf_hasPlace_4 rfl (lv_at hl 1 rfl) ?_
    refine lv_aload_n hx hb d_Shelf_hasPlace_5 rfl (lv_at hl 0 rfl) ?_
    obtain ⟨v6, hv, hm⟩ := zbd hm
    refine z_getI X hI F_Shelf_22 hv d_Shelf_hasPlace_6 ?_
    refine lv_icmp_ge (tgt := 16) hx hb d_Shelf_hasPlace_9 (by decide) (fun hc9 => ?_) (fun hc9 => ?_)
    · replace hm := zif_t hc9 hm
      refine lv_iconst (v := (nI 0)) hx hb d_Shelf_hasPlace_16 (by decide) ?_
      obtain rfl := zs1 hm
      exact z_zret X hI (by decide) d_Shelf_hasPlace_17
    · replace hm := zif_f hc9 hm
      refine lv_iconst (v := (nI 1)) hx hb d_Shelf_hasPlace_12 (by decide) ?_
      refine lv_goto (tgt := 17) hx hb d_Shelf_hasPlace_13 (by decide) ?_
      obtain rfl := zs1 hm
      exact z_zret X hI (by decide) d_Shelf_hasPlace_17
set_option maxHeartbeats 4000000 in
set_option maxRecDepth 100000 in
theorem c_Shelf_hasPlace (l : Launch) (G : zG) (K : Nat) (a0 : Nat) (x1 : Int32) (h : zH) (r : Int32) (hm : m_Shelf_hasPlace a0 x1 h = some r) : zMz l G K y_Shelf_hasPlace prog_7_method_9_code 2 0 [.ref (G.1 a0), .int x1] h r h := zMet (by decide +kernel) (Nat.le_of_ble_eq_true rfl) (fun p e s m below meth c ls X hI hl => r_Shelf_hasPlace_0 X a0 x1 h hm hI hl)
