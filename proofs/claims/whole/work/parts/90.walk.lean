-- walk of AllHomeModel.ofHut
theorem d_Model_ofHut_0 : decode prog_9_method_44_code 0 = .ok (.aload_n 0, 1) := by decide +kernel
theorem d_Model_ofHut_1 : decode prog_9_method_44_code 1 = .ok (.iload_n 1, 1) := by decide +kernel
theorem d_Model_ofHut_2 : decode prog_9_method_44_code 2 = .ok (.invokevirtual 220, 3) := by decide +kernel
theorem d_Model_ofHut_5 : decode prog_9_method_44_code 5 = .ok (.ifCond .eq 11, 3) := by decide +kernel
theorem d_Model_ofHut_8 : decode prog_9_method_44_code 8 = .ok (.aload_n 0, 1) := by decide +kernel
theorem d_Model_ofHut_9 : decode prog_9_method_44_code 9 = .ok (.iload_n 2, 1) := by decide +kernel
theorem d_Model_ofHut_10 : decode prog_9_method_44_code 10 = .ok (.invokevirtual 113, 3) := by decide +kernel
theorem d_Model_ofHut_13 : decode prog_9_method_44_code 13 = .ok (.ifCond .ne 6, 3) := by decide +kernel
theorem d_Model_ofHut_16 : decode prog_9_method_44_code 16 = .ok (.ldc 231, 2) := by decide +kernel
theorem d_Model_ofHut_18 : decode prog_9_method_44_code 18 = .ok (.ireturn, 1) := by decide +kernel
theorem d_Model_ofHut_19 : decode prog_9_method_44_code 19 = .ok (.aload_n 0, 1) := by decide +kernel
theorem d_Model_ofHut_20 : decode prog_9_method_44_code 20 = .ok (.iload_n 1, 1) := by decide +kernel
theorem d_Model_ofHut_21 : decode prog_9_method_44_code 21 = .ok (.invokevirtual 210, 3) := by decide +kernel
theorem d_Model_ofHut_24 : decode prog_9_method_44_code 24 = .ok (.aload_n 0, 1) := by decide +kernel
theorem d_Model_ofHut_25 : decode prog_9_method_44_code 25 = .ok (.getfield 134, 3) := by decide +kernel
theorem d_Model_ofHut_28 : decode prog_9_method_44_code 28 = .ok (.iconst 2, 1) := by decide +kernel
theorem d_Model_ofHut_29 : decode prog_9_method_44_code 29 = .ok (.invokestatic 159, 3) := by decide +kernel
theorem d_Model_ofHut_32 : decode prog_9_method_44_code 32 = .ok (.istore 4, 2) := by decide +kernel
theorem d_Model_ofHut_34 : decode prog_9_method_44_code 34 = .ok (.aload_n 0, 1) := by decide +kernel
theorem d_Model_ofHut_35 : decode prog_9_method_44_code 35 = .ok (.getfield 134, 3) := by decide +kernel
theorem d_Model_ofHut_38 : decode prog_9_method_44_code 38 = .ok (.iconst 4, 1) := by decide +kernel
theorem d_Model_ofHut_39 : decode prog_9_method_44_code 39 = .ok (.invokestatic 159, 3) := by decide +kernel
theorem d_Model_ofHut_42 : decode prog_9_method_44_code 42 = .ok (.istore 5, 2) := by decide +kernel
theorem d_Model_ofHut_44 : decode prog_9_method_44_code 44 = .ok (.aload_n 0, 1) := by decide +kernel
theorem d_Model_ofHut_45 : decode prog_9_method_44_code 45 = .ok (.getfield 134, 3) := by decide +kernel
theorem d_Model_ofHut_48 : decode prog_9_method_44_code 48 = .ok (.iconst 5, 1) := by decide +kernel
theorem d_Model_ofHut_49 : decode prog_9_method_44_code 49 = .ok (.invokestatic 159, 3) := by decide +kernel
theorem d_Model_ofHut_52 : decode prog_9_method_44_code 52 = .ok (.istore 6, 2) := by decide +kernel
theorem d_Model_ofHut_54 : decode prog_9_method_44_code 54 = .ok (.iload_n 3, 1) := by decide +kernel
theorem d_Model_ofHut_55 : decode prog_9_method_44_code 55 = .ok (.tableswitch 217 0 10 #[57, 64, 71, 78, 98, 115, 132, 149, 166, 183, 200], 57) := by decide +kernel
theorem d_Model_ofHut_112 : decode prog_9_method_44_code 112 = .ok (.aload_n 0, 1) := by decide +kernel
theorem d_Model_ofHut_113 : decode prog_9_method_44_code 113 = .ok (.iload_n 2, 1) := by decide +kernel
theorem d_Model_ofHut_114 : decode prog_9_method_44_code 114 = .ok (.iconst 0, 1) := by decide +kernel
theorem d_Model_ofHut_115 : decode prog_9_method_44_code 115 = .ok (.invokevirtual 155, 3) := by decide +kernel
theorem d_Model_ofHut_118 : decode prog_9_method_44_code 118 = .ok (.ireturn, 1) := by decide +kernel
theorem d_Model_ofHut_119 : decode prog_9_method_44_code 119 = .ok (.aload_n 0, 1) := by decide +kernel
theorem d_Model_ofHut_120 : decode prog_9_method_44_code 120 = .ok (.iload_n 2, 1) := by decide +kernel
theorem d_Model_ofHut_121 : decode prog_9_method_44_code 121 = .ok (.iconst 1, 1) := by decide +kernel
theorem d_Model_ofHut_122 : decode prog_9_method_44_code 122 = .ok (.invokevirtual 155, 3) := by decide +kernel
theorem d_Model_ofHut_125 : decode prog_9_method_44_code 125 = .ok (.ireturn, 1) := by decide +kernel
theorem d_Model_ofHut_126 : decode prog_9_method_44_code 126 = .ok (.aload_n 0, 1) := by decide +kernel
theorem d_Model_ofHut_127 : decode prog_9_method_44_code 127 = .ok (.iload_n 2, 1) := by decide +kernel
theorem d_Model_ofHut_128 : decode prog_9_method_44_code 128 = .ok (.iconst 2, 1) := by decide +kernel
theorem d_Model_ofHut_129 : decode prog_9_method_44_code 129 = .ok (.invokevirtual 155, 3) := by decide +kernel
theorem d_Model_ofHut_132 : decode prog_9_method_44_code 132 = .ok (.ireturn, 1) := by decide +kernel
theorem d_Model_ofHut_133 : decode prog_9_method_44_code 133 = .ok (.aload_n 0, 1) := by decide +kernel
theorem d_Model_ofHut_134 : decode prog_9_method_44_code 134 = .ok (.getfield 134, 3) := by decide +kernel
theorem d_Model_ofHut_137 : decode prog_9_method_44_code 137 = .ok (.iconst 1, 1) := by decide +kernel
theorem d_Model_ofHut_138 : decode prog_9_method_44_code 138 = .ok (.if_icmp .ne 12, 3) := by decide +kernel
theorem d_Model_ofHut_141 : decode prog_9_method_44_code 141 = .ok (.aload_n 0, 1) := by decide +kernel
theorem d_Model_ofHut_142 : decode prog_9_method_44_code 142 = .ok (.iload_n 2, 1) := by decide +kernel
theorem d_Model_ofHut_143 : decode prog_9_method_44_code 143 = .ok (.iconst 3, 1) := by decide +kernel
theorem d_Model_ofHut_144 : decode prog_9_method_44_code 144 = .ok (.invokevirtual 155, 3) := by decide +kernel
theorem d_Model_ofHut_147 : decode prog_9_method_44_code 147 = .ok (.goto 5, 3) := by decide +kernel
theorem d_Model_ofHut_150 : decode prog_9_method_44_code 150 = .ok (.ldc 231, 2) := by decide +kernel
theorem d_Model_ofHut_152 : decode prog_9_method_44_code 152 = .ok (.ireturn, 1) := by decide +kernel
theorem d_Model_ofHut_153 : decode prog_9_method_44_code 153 = .ok (.iload 4, 2) := by decide +kernel
theorem d_Model_ofHut_155 : decode prog_9_method_44_code 155 = .ok (.ifCond .eq 12, 3) := by decide +kernel
theorem d_Model_ofHut_158 : decode prog_9_method_44_code 158 = .ok (.aload_n 0, 1) := by decide +kernel
theorem d_Model_ofHut_159 : decode prog_9_method_44_code 159 = .ok (.iload_n 2, 1) := by decide +kernel
theorem d_Model_ofHut_160 : decode prog_9_method_44_code 160 = .ok (.iconst 3, 1) := by decide +kernel
theorem d_Model_ofHut_161 : decode prog_9_method_44_code 161 = .ok (.invokevirtual 155, 3) := by decide +kernel
theorem d_Model_ofHut_164 : decode prog_9_method_44_code 164 = .ok (.goto 5, 3) := by decide +kernel
theorem d_Model_ofHut_167 : decode prog_9_method_44_code 167 = .ok (.ldc 231, 2) := by decide +kernel
theorem d_Model_ofHut_169 : decode prog_9_method_44_code 169 = .ok (.ireturn, 1) := by decide +kernel
theorem d_Model_ofHut_170 : decode prog_9_method_44_code 170 = .ok (.iload 4, 2) := by decide +kernel
theorem d_Model_ofHut_172 : decode prog_9_method_44_code 172 = .ok (.ifCond .eq 12, 3) := by decide +kernel
theorem d_Model_ofHut_175 : decode prog_9_method_44_code 175 = .ok (.aload_n 0, 1) := by decide +kernel
theorem d_Model_ofHut_176 : decode prog_9_method_44_code 176 = .ok (.iload_n 2, 1) := by decide +kernel
theorem d_Model_ofHut_177 : decode prog_9_method_44_code 177 = .ok (.iconst 4, 1) := by decide +kernel
theorem d_Model_ofHut_178 : decode prog_9_method_44_code 178 = .ok (.invokevirtual 155, 3) := by decide +kernel
theorem d_Model_ofHut_181 : decode prog_9_method_44_code 181 = .ok (.goto 5, 3) := by decide +kernel
theorem d_Model_ofHut_184 : decode prog_9_method_44_code 184 = .ok (.ldc 231, 2) := by decide +kernel
theorem d_Model_ofHut_186 : decode prog_9_method_44_code 186 = .ok (.ireturn, 1) := by decide +kernel
theorem d_Model_ofHut_187 : decode prog_9_method_44_code 187 = .ok (.iload 4, 2) := by decide +kernel
theorem d_Model_ofHut_189 : decode prog_9_method_44_code 189 = .ok (.ifCond .eq 12, 3) := by decide +kernel
theorem d_Model_ofHut_192 : decode prog_9_method_44_code 192 = .ok (.aload_n 0, 1) := by decide +kernel
theorem d_Model_ofHut_193 : decode prog_9_method_44_code 193 = .ok (.iload_n 2, 1) := by decide +kernel
theorem d_Model_ofHut_194 : decode prog_9_method_44_code 194 = .ok (.iconst 5, 1) := by decide +kernel
theorem d_Model_ofHut_195 : decode prog_9_method_44_code 195 = .ok (.invokevirtual 155, 3) := by decide +kernel
theorem d_Model_ofHut_198 : decode prog_9_method_44_code 198 = .ok (.goto 5, 3) := by decide +kernel
theorem d_Model_ofHut_201 : decode prog_9_method_44_code 201 = .ok (.ldc 231, 2) := by decide +kernel
theorem d_Model_ofHut_203 : decode prog_9_method_44_code 203 = .ok (.ireturn, 1) := by decide +kernel
theorem d_Model_ofHut_204 : decode prog_9_method_44_code 204 = .ok (.iload 5, 2) := by decide +kernel
theorem d_Model_ofHut_206 : decode prog_9_method_44_code 206 = .ok (.ifCond .eq 12, 3) := by decide +kernel
theorem d_Model_ofHut_209 : decode prog_9_method_44_code 209 = .ok (.aload_n 0, 1) := by decide +kernel
theorem d_Model_ofHut_210 : decode prog_9_method_44_code 210 = .ok (.iload_n 2, 1) := by decide +kernel
theorem d_Model_ofHut_211 : decode prog_9_method_44_code 211 = .ok (.iconst 3, 1) := by decide +kernel
theorem d_Model_ofHut_212 : decode prog_9_method_44_code 212 = .ok (.invokevirtual 155, 3) := by decide +kernel
theorem d_Model_ofHut_215 : decode prog_9_method_44_code 215 = .ok (.goto 5, 3) := by decide +kernel
theorem d_Model_ofHut_218 : decode prog_9_method_44_code 218 = .ok (.ldc 231, 2) := by decide +kernel
theorem d_Model_ofHut_220 : decode prog_9_method_44_code 220 = .ok (.ireturn, 1) := by decide +kernel
theorem d_Model_ofHut_221 : decode prog_9_method_44_code 221 = .ok (.iload 5, 2) := by decide +kernel
theorem d_Model_ofHut_223 : decode prog_9_method_44_code 223 = .ok (.ifCond .eq 12, 3) := by decide +kernel
theorem d_Model_ofHut_226 : decode prog_9_method_44_code 226 = .ok (.aload_n 0, 1) := by decide +kernel
theorem d_Model_ofHut_227 : decode prog_9_method_44_code 227 = .ok (.iload_n 2, 1) := by decide +kernel
theorem d_Model_ofHut_228 : decode prog_9_method_44_code 228 = .ok (.iconst 4, 1) := by decide +kernel
theorem d_Model_ofHut_229 : decode prog_9_method_44_code 229 = .ok (.invokevirtual 155, 3) := by decide +kernel
theorem d_Model_ofHut_232 : decode prog_9_method_44_code 232 = .ok (.goto 5, 3) := by decide +kernel
theorem d_Model_ofHut_235 : decode prog_9_method_44_code 235 = .ok (.ldc 231, 2) := by decide +kernel
theorem d_Model_ofHut_237 : decode prog_9_method_44_code 237 = .ok (.ireturn, 1) := by decide +kernel
theorem d_Model_ofHut_238 : decode prog_9_method_44_code 238 = .ok (.iload 6, 2) := by decide +kernel
theorem d_Model_ofHut_240 : decode prog_9_method_44_code 240 = .ok (.ifCond .eq 12, 3) := by decide +kernel
theorem d_Model_ofHut_243 : decode prog_9_method_44_code 243 = .ok (.aload_n 0, 1) := by decide +kernel
theorem d_Model_ofHut_244 : decode prog_9_method_44_code 244 = .ok (.iload_n 2, 1) := by decide +kernel
theorem d_Model_ofHut_245 : decode prog_9_method_44_code 245 = .ok (.iconst 3, 1) := by decide +kernel
theorem d_Model_ofHut_246 : decode prog_9_method_44_code 246 = .ok (.invokevirtual 155, 3) := by decide +kernel
theorem d_Model_ofHut_249 : decode prog_9_method_44_code 249 = .ok (.goto 5, 3) := by decide +kernel
theorem d_Model_ofHut_252 : decode prog_9_method_44_code 252 = .ok (.ldc 231, 2) := by decide +kernel
theorem d_Model_ofHut_254 : decode prog_9_method_44_code 254 = .ok (.ireturn, 1) := by decide +kernel
theorem d_Model_ofHut_255 : decode prog_9_method_44_code 255 = .ok (.iload 6, 2) := by decide +kernel
theorem d_Model_ofHut_257 : decode prog_9_method_44_code 257 = .ok (.ifCond .eq 12, 3) := by decide +kernel
theorem d_Model_ofHut_260 : decode prog_9_method_44_code 260 = .ok (.aload_n 0, 1) := by decide +kernel
theorem d_Model_ofHut_261 : decode prog_9_method_44_code 261 = .ok (.iload_n 2, 1) := by decide +kernel
theorem d_Model_ofHut_262 : decode prog_9_method_44_code 262 = .ok (.iconst 4, 1) := by decide +kernel
theorem d_Model_ofHut_263 : decode prog_9_method_44_code 263 = .ok (.invokevirtual 155, 3) := by decide +kernel
theorem d_Model_ofHut_266 : decode prog_9_method_44_code 266 = .ok (.goto 5, 3) := by decide +kernel
theorem d_Model_ofHut_269 : decode prog_9_method_44_code 269 = .ok (.ldc 231, 2) := by decide +kernel
theorem d_Model_ofHut_271 : decode prog_9_method_44_code 271 = .ok (.ireturn, 1) := by decide +kernel
theorem d_Model_ofHut_272 : decode prog_9_method_44_code 272 = .ok (.ldc 231, 2) := by decide +kernel
theorem d_Model_ofHut_274 : decode prog_9_method_44_code 274 = .ok (.ireturn, 1) := by decide +kernel
set_option maxHeartbeats 4000000 in
set_option maxRecDepth 100000 in
theorem r_Model_ofHut_0 {p : Program} {l : Launch} {e : Env} {s : State} {m : MethodId} {args : Array Value} {below : List Frame} {meth : Method} {c : Code} {G : zG} {K : Nat} (X : zX p s m args meth c "AllHomeModel" prog_9_method_44_code 7 (some .int) G (zA G K)) {r : Int32} {h' : zH} (a0 : Nat) (x1 : Int32) (x2 : Int32) (x3 : Int32) (h : zH) (hm : m_Model_ofHut a0 x1 x2 x3 h = some (r, h')) {H : Heap} {locs : List Loc} {ls : Array Slot} (hI : zI G K s (zA G K) H locs h) (hl : lv_has ls 7 [(0, .ref (G.1 a0)), (1, .int x1), (2, .int x2), (3, .int x3)]) : W p l e (zR 2) s m args below meth c H locs 0 0 (MQ below (zQi G K r h') args s 0 0 (zA G K)) (F0 m 0 ls []) := by
  obtain ⟨hx, hb, hml, hown, hts, hr, hlocks, hK, hST, hNs⟩ := id X
  unfold m_Model_ofHut at hm
  refine lv_aload_n hx hb d_Model_ofHut_0 rfl (lv_at hl 0 rfl) ?_
  refine lv_iload_n hx hb d_Model_ofHut_1 rfl (lv_at hl 1 rfl) ?_
  obtain ⟨v2, hv, hm⟩ := zbd hm
  obtain ⟨hq, hv⟩ := zcv_at hv
  refine z_ci hI (z_runV (As := [.int x1]) (rest := []) X hI hl.1 (c_Model_isRun l G K a0 x1 h _ hv) C_Model_220 rfl hq (Nat.le_of_ble_eq_true rfl) ⟨Nat.le_of_ble_eq_true rfl, Nat.le_of_ble_eq_true rfl, Nat.zero_le _, Nat.zero_le _⟩ rfl d_Model_ofHut_2) (fun H locs hI => ?_)
  refine lv_if_eq (tgt := 16) hx hb d_Model_ofHut_5 (by decide) (fun hc5 => ?_) (fun hc5 => ?_)
  · replace hm := zif_t hc5 hm
    refine lv_ldc hx hb hown (hts _ kw953) d_Model_ofHut_16 ?_
    obtain ⟨rfl, rfl⟩ := zs2 hm
    exact z_iret X hI d_Model_ofHut_18
  · replace hm := zif_f hc5 hm
    refine lv_aload_n hx hb d_Model_ofHut_8 rfl (lv_at hl 0 rfl) ?_
    refine lv_iload_n hx hb d_Model_ofHut_9 rfl (lv_at hl 2 rfl) ?_
    obtain ⟨v10, hv, hm⟩ := zbd hm
    obtain ⟨hq, hv⟩ := zcv_at hv
    refine z_ci hI (z_runV (As := [.int x2]) (rest := []) X hI hl.1 (c_Model_isHut l G K a0 x2 h _ hv) C_Model_113 rfl hq (Nat.le_of_ble_eq_true rfl) ⟨Nat.le_of_ble_eq_true rfl, Nat.le_of_ble_eq_true rfl, Nat.zero_le _, Nat.zero_le _⟩ rfl d_Model_ofHut_10) (fun H locs hI => ?_)
    refine lv_if_ne (tgt := 19) hx hb d_Model_ofHut_13 (by decide) (fun hc13 => ?_) (fun hc13 => ?_)
    · replace hm := zif_f hc13 hm
      refine lv_aload_n hx hb d_Model_ofHut_19 rfl (lv_at hl 0 rfl) ?_
      refine lv_iload_n hx hb d_Model_ofHut_20 rfl (lv_at hl 1 rfl) ?_
      obtain ⟨h21, hv, hm⟩ := zbd hm
      obtain ⟨hq, hv⟩ := zcv_at hv
      refine z_cv hI (z_runV (As := [.int x1]) (rest := []) X hI hl.1 (c_Model_takeRun l G K a0 x1 h _ hv) C_Model_210 rfl hq (Nat.le_of_ble_eq_true rfl) ⟨Nat.le_of_ble_eq_true rfl, Nat.le_of_ble_eq_true rfl, Nat.zero_le _, Nat.zero_le _⟩ rfl d_Model_ofHut_21) (fun H locs hI => ?_)
      refine lv_aload_n hx hb d_Model_ofHut_24 rfl (lv_at hl 0 rfl) ?_
      obtain ⟨v25, hv, hm⟩ := zbd hm
      refine z_getI X hI F_Model_134 hv d_Model_ofHut_25 ?_
      refine lv_iconst (v := (nI 2)) hx hb d_Model_ofHut_28 (by decide) ?_
      obtain ⟨v29, hv, hm⟩ := zbd hm
      refine z_ci hI (z_runS (As := [.int v25, .int (nI 2)]) (rest := []) X hI hl.1 (c_Model_isUnder l G K v25 (nI 2) h21 _ hv) C_Model_159 rfl (Nat.le_of_ble_eq_true rfl) ⟨Nat.le_of_ble_eq_true rfl, Nat.le_of_ble_eq_true rfl, Nat.zero_le _, Nat.zero_le _⟩ rfl d_Model_ofHut_29) (fun H locs hI => ?_)
      refine lv_istore (lv' := [(4, .int v29), (0, .ref (G.1 a0)), (1, .int x1), (2, .int x2), (3, .int x3)]) hx hb d_Model_ofHut_32 hl (by decide) rfl (fun ls hl => ?_)
      refine lv_aload_n hx hb d_Model_ofHut_34 rfl (lv_at hl 1 rfl) ?_
      obtain ⟨v35, hv, hm⟩ := zbd hm
      refine z_getI X hI F_Model_134 hv d_Model_ofHut_35 ?_
      refine lv_iconst (v := (nI 4)) hx hb d_Model_ofHut_38 (by decide) ?_
      obtain ⟨v39, hv, hm⟩ := zbd hm
      refine z_ci hI (z_runS (As := [.int v35, .int (nI 4)]) (rest := []) X hI hl.1 (c_Model_isUnder l G K v35 (nI 4) h21 _ hv) C_Model_159 rfl (Nat.le_of_ble_eq_true rfl) ⟨Nat.le_of_ble_eq_true rfl, Nat.le_of_ble_eq_true rfl, Nat.zero_le _, Nat.zero_le _⟩ rfl d_Model_ofHut_39) (fun H locs hI => ?_)
      refine lv_istore (lv' := [(5, .int v39), (4, .int v29), (0, .ref (G.1 a0)), (1, .int x1), (2, .int x2), (3, .int x3)]) hx hb d_Model_ofHut_42 hl (by decide) rfl (fun ls hl => ?_)
      refine lv_aload_n hx hb d_Model_ofHut_44 rfl (lv_at hl 2 rfl) ?_
      obtain ⟨v45, hv, hm⟩ := zbd hm
      refine z_getI X hI F_Model_134 hv d_Model_ofHut_45 ?_
      refine lv_iconst (v := (nI 5)) hx hb d_Model_ofHut_48 (by decide) ?_
      obtain ⟨v49, hv, hm⟩ := zbd hm
      refine z_ci hI (z_runS (As := [.int v45, .int (nI 5)]) (rest := []) X hI hl.1 (c_Model_isUnder l G K v45 (nI 5) h21 _ hv) C_Model_159 rfl (Nat.le_of_ble_eq_true rfl) ⟨Nat.le_of_ble_eq_true rfl, Nat.le_of_ble_eq_true rfl, Nat.zero_le _, Nat.zero_le _⟩ rfl d_Model_ofHut_49) (fun H locs hI => ?_)
      refine lv_istore (lv' := [(6, .int v49), (5, .int v39), (4, .int v29), (0, .ref (G.1 a0)), (1, .int x1), (2, .int x2), (3, .int x3)]) hx hb d_Model_ofHut_52 hl (by decide) rfl (fun ls hl => ?_)
      refine lv_iload_n hx hb d_Model_ofHut_54 rfl (lv_at hl 6 rfl) ?_
      by_cases hs55_0 : x3 = (nI 0)
      · replace hm := zif_t hs55_0 hm
        refine lv_tableIn (off := 57) (tgt := 112) hx hb d_Model_ofHut_55 (by rw [hs55_0]; decide) (by rw [hs55_0]; decide) (by rw [hs55_0]; rfl) (by decide) ?_
        refine lv_aload_n hx hb d_Model_ofHut_112 rfl (lv_at hl 3 rfl) ?_
        refine lv_iload_n hx hb d_Model_ofHut_113 rfl (lv_at hl 5 rfl) ?_
        refine lv_iconst (v := (nI 0)) hx hb d_Model_ofHut_114 (by decide) ?_
        obtain ⟨v115, hv, hm⟩ := zbd hm
        obtain ⟨hq, hv⟩ := zcv_at hv
        refine z_ci hI (z_runV (As := [.int x2, .int (nI 0)]) (rest := []) X hI hl.1 (c_Model_of l G K a0 x2 (nI 0) h21 _ hv) C_Model_155 rfl hq (Nat.le_of_ble_eq_true rfl) ⟨Nat.le_of_ble_eq_true rfl, Nat.le_of_ble_eq_true rfl, Nat.zero_le _, Nat.zero_le _⟩ rfl d_Model_ofHut_115) (fun H locs hI => ?_)
        obtain ⟨rfl, rfl⟩ := zs2 hm
        exact z_iret X hI d_Model_ofHut_118
      · replace hm := zif_f hs55_0 hm
        by_cases hs55_1 : x3 = (nI 1)
        · replace hm := zif_t hs55_1 hm
          refine lv_tableIn (off := 64) (tgt := 119) hx hb d_Model_ofHut_55 (by rw [hs55_1]; decide) (by rw [hs55_1]; decide) (by rw [hs55_1]; rfl) (by decide) ?_
          refine lv_aload_n hx hb d_Model_ofHut_119 rfl (lv_at hl 3 rfl) ?_
          refine lv_iload_n hx hb d_Model_ofHut_120 rfl (lv_at hl 5 rfl) ?_
          refine lv_iconst (v := (nI 1)) hx hb d_Model_ofHut_121 (by decide) ?_
          obtain ⟨v122, hv, hm⟩ := zbd hm
          obtain ⟨hq, hv⟩ := zcv_at hv
          refine z_ci hI (z_runV (As := [.int x2, .int (nI 1)]) (rest := []) X hI hl.1 (c_Model_of l G K a0 x2 (nI 1) h21 _ hv) C_Model_155 rfl hq (Nat.le_of_ble_eq_true rfl) ⟨Nat.le_of_ble_eq_true rfl, Nat.le_of_ble_eq_true rfl, Nat.zero_le _, Nat.zero_le _⟩ rfl d_Model_ofHut_122) (fun H locs hI => ?_)
          obtain ⟨rfl, rfl⟩ := zs2 hm
          exact z_iret X hI d_Model_ofHut_125
        · replace hm := zif_f hs55_1 hm
          by_cases hs55_2 : x3 = (nI 2)
          · replace hm := zif_t hs55_2 hm
            refine lv_tableIn (off := 71) (tgt := 126) hx hb d_Model_ofHut_55 (by rw [hs55_2]; decide) (by rw [hs55_2]; decide) (by rw [hs55_2]; rfl) (by decide) ?_
            refine lv_aload_n hx hb d_Model_ofHut_126 rfl (lv_at hl 3 rfl) ?_
            refine lv_iload_n hx hb d_Model_ofHut_127 rfl (lv_at hl 5 rfl) ?_
            refine lv_iconst (v := (nI 2)) hx hb d_Model_ofHut_128 (by decide) ?_
            obtain ⟨v129, hv, hm⟩ := zbd hm
            obtain ⟨hq, hv⟩ := zcv_at hv
            refine z_ci hI (z_runV (As := [.int x2, .int (nI 2)]) (rest := []) X hI hl.1 (c_Model_of l G K a0 x2 (nI 2) h21 _ hv) C_Model_155 rfl hq (Nat.le_of_ble_eq_true rfl) ⟨Nat.le_of_ble_eq_true rfl, Nat.le_of_ble_eq_true rfl, Nat.zero_le _, Nat.zero_le _⟩ rfl d_Model_ofHut_129) (fun H locs hI => ?_)
            obtain ⟨rfl, rfl⟩ := zs2 hm
            exact z_iret X hI d_Model_ofHut_132
          · replace hm := zif_f hs55_2 hm
            by_cases hs55_3 : x3 = (nI 3)
            · replace hm := zif_t hs55_3 hm
              refine lv_tableIn (off := 78) (tgt := 133) hx hb d_Model_ofHut_55 (by rw [hs55_3]; decide) (by rw [hs55_3]; decide) (by rw [hs55_3]; rfl) (by decide) ?_
              refine lv_aload_n hx hb d_Model_ofHut_133 rfl (lv_at hl 3 rfl) ?_
              obtain ⟨v134, hv, hm⟩ := zbd hm
              refine z_getI X hI F_Model_134 hv d_Model_ofHut_134 ?_
              refine lv_iconst (v := (nI 1)) hx hb d_Model_ofHut_137 (by decide) ?_
              refine lv_icmp_ne (tgt := 150) hx hb d_Model_ofHut_138 (by decide) (fun hc138 => ?_) (fun hc138 => ?_)
              · replace hm := zif_f hc138 hm
                refine lv_ldc hx hb hown (hts _ kw953) d_Model_ofHut_150 ?_
                obtain ⟨rfl, rfl⟩ := zs2 hm
                exact z_iret X hI d_Model_ofHut_152
              · replace hm := zif_t hc138 hm
                refine lv_aload_n hx hb d_Model_ofHut_141 rfl (lv_at hl 3 rfl) ?_
                refine lv_iload_n hx hb d_Model_ofHut_142 rfl (lv_at hl 5 rfl) ?_
                refine lv_iconst (v := (nI 3)) hx hb d_Model_ofHut_143 (by decide) ?_
                obtain ⟨v144, hv, hm⟩ := zbd hm
                obtain ⟨hq, hv⟩ := zcv_at hv
                refine z_ci hI (z_runV (As := [.int x2, .int (nI 3)]) (rest := []) X hI hl.1 (c_Model_of l G K a0 x2 (nI 3) h21 _ hv) C_Model_155 rfl hq (Nat.le_of_ble_eq_true rfl) ⟨Nat.le_of_ble_eq_true rfl, Nat.le_of_ble_eq_true rfl, Nat.zero_le _, Nat.zero_le _⟩ rfl d_Model_ofHut_144) (fun H locs hI => ?_)
                refine lv_goto (tgt := 152) hx hb d_Model_ofHut_147 (by decide) ?_
                obtain ⟨rfl, rfl⟩ := zs2 hm
                exact z_iret X hI d_Model_ofHut_152
            · replace hm := zif_f hs55_3 hm
              by_cases hs55_4 : x3 = (nI 4)
              · replace hm := zif_t hs55_4 hm
                refine lv_tableIn (off := 98) (tgt := 153) hx hb d_Model_ofHut_55 (by rw [hs55_4]; decide) (by rw [hs55_4]; decide) (by rw [hs55_4]; rfl) (by decide) ?_
                refine lv_iload hx hb d_Model_ofHut_153 (lv_at hl 2 rfl) ?_
                refine lv_if_eq (tgt := 167) hx hb d_Model_ofHut_155 (by decide) (fun hc155 => ?_) (fun hc155 => ?_)
                · replace hm := zif_t hc155 hm
                  refine lv_ldc hx hb hown (hts _ kw953) d_Model_ofHut_167 ?_
                  obtain ⟨rfl, rfl⟩ := zs2 hm
                  exact z_iret X hI d_Model_ofHut_169
                · replace hm := zif_f hc155 hm
                  refine lv_aload_n hx hb d_Model_ofHut_158 rfl (lv_at hl 3 rfl) ?_
                  refine lv_iload_n hx hb d_Model_ofHut_159 rfl (lv_at hl 5 rfl) ?_
                  refine lv_iconst (v := (nI 3)) hx hb d_Model_ofHut_160 (by decide) ?_
                  obtain ⟨v161, hv, hm⟩ := zbd hm
                  obtain ⟨hq, hv⟩ := zcv_at hv
                  refine z_ci hI (z_runV (As := [.int x2, .int (nI 3)]) (rest := []) X hI hl.1 (c_Model_of l G K a0 x2 (nI 3) h21 _ hv) C_Model_155 rfl hq (Nat.le_of_ble_eq_true rfl) ⟨Nat.le_of_ble_eq_true rfl, Nat.le_of_ble_eq_true rfl, Nat.zero_le _, Nat.zero_le _⟩ rfl d_Model_ofHut_161) (fun H locs hI => ?_)
                  refine lv_goto (tgt := 169) hx hb d_Model_ofHut_164 (by decide) ?_
                  obtain ⟨rfl, rfl⟩ := zs2 hm
                  exact z_iret X hI d_Model_ofHut_169
              · replace hm := zif_f hs55_4 hm
                by_cases hs55_5 : x3 = (nI 5)
                · replace hm := zif_t hs55_5 hm
                  refine lv_tableIn (off := 115) (tgt := 170) hx hb d_Model_ofHut_55 (by rw [hs55_5]; decide) (by rw [hs55_5]; decide) (by rw [hs55_5]; rfl) (by decide) ?_
                  refine lv_iload hx hb d_Model_ofHut_170 (lv_at hl 2 rfl) ?_
                  refine lv_if_eq (tgt := 184) hx hb d_Model_ofHut_172 (by decide) (fun hc172 => ?_) (fun hc172 => ?_)
                  · replace hm := zif_t hc172 hm
                    refine lv_ldc hx hb hown (hts _ kw953) d_Model_ofHut_184 ?_
                    obtain ⟨rfl, rfl⟩ := zs2 hm
                    exact z_iret X hI d_Model_ofHut_186
                  · replace hm := zif_f hc172 hm
                    refine lv_aload_n hx hb d_Model_ofHut_175 rfl (lv_at hl 3 rfl) ?_
                    refine lv_iload_n hx hb d_Model_ofHut_176 rfl (lv_at hl 5 rfl) ?_
                    refine lv_iconst (v := (nI 4)) hx hb d_Model_ofHut_177 (by decide) ?_
                    obtain ⟨v178, hv, hm⟩ := zbd hm
                    obtain ⟨hq, hv⟩ := zcv_at hv
                    refine z_ci hI (z_runV (As := [.int x2, .int (nI 4)]) (rest := []) X hI hl.1 (c_Model_of l G K a0 x2 (nI 4) h21 _ hv) C_Model_155 rfl hq (Nat.le_of_ble_eq_true rfl) ⟨Nat.le_of_ble_eq_true rfl, Nat.le_of_ble_eq_true rfl, Nat.zero_le _, Nat.zero_le _⟩ rfl d_Model_ofHut_178) (fun H locs hI => ?_)
                    refine lv_goto (tgt := 186) hx hb d_Model_ofHut_181 (by decide) ?_
                    obtain ⟨rfl, rfl⟩ := zs2 hm
                    exact z_iret X hI d_Model_ofHut_186
                · replace hm := zif_f hs55_5 hm
                  by_cases hs55_6 : x3 = (nI 6)
                  · replace hm := zif_t hs55_6 hm
                    refine lv_tableIn (off := 132) (tgt := 187) hx hb d_Model_ofHut_55 (by rw [hs55_6]; decide) (by rw [hs55_6]; decide) (by rw [hs55_6]; rfl) (by decide) ?_
                    refine lv_iload hx hb d_Model_ofHut_187 (lv_at hl 2 rfl) ?_
                    refine lv_if_eq (tgt := 201) hx hb d_Model_ofHut_189 (by decide) (fun hc189 => ?_) (fun hc189 => ?_)
                    · replace hm := zif_t hc189 hm
                      refine lv_ldc hx hb hown (hts _ kw953) d_Model_ofHut_201 ?_
                      obtain ⟨rfl, rfl⟩ := zs2 hm
                      exact z_iret X hI d_Model_ofHut_203
                    · replace hm := zif_f hc189 hm
                      refine lv_aload_n hx hb d_Model_ofHut_192 rfl (lv_at hl 3 rfl) ?_
                      refine lv_iload_n hx hb d_Model_ofHut_193 rfl (lv_at hl 5 rfl) ?_
                      refine lv_iconst (v := (nI 5)) hx hb d_Model_ofHut_194 (by decide) ?_
                      obtain ⟨v195, hv, hm⟩ := zbd hm
                      obtain ⟨hq, hv⟩ := zcv_at hv
                      refine z_ci hI (z_runV (As := [.int x2, .int (nI 5)]) (rest := []) X hI hl.1 (c_Model_of l G K a0 x2 (nI 5) h21 _ hv) C_Model_155 rfl hq (Nat.le_of_ble_eq_true rfl) ⟨Nat.le_of_ble_eq_true rfl, Nat.le_of_ble_eq_true rfl, Nat.zero_le _, Nat.zero_le _⟩ rfl d_Model_ofHut_195) (fun H locs hI => ?_)
                      refine lv_goto (tgt := 203) hx hb d_Model_ofHut_198 (by decide) ?_
                      obtain ⟨rfl, rfl⟩ := zs2 hm
                      exact z_iret X hI d_Model_ofHut_203
                  · replace hm := zif_f hs55_6 hm
                    by_cases hs55_7 : x3 = (nI 7)
                    · replace hm := zif_t hs55_7 hm
                      refine lv_tableIn (off := 149) (tgt := 204) hx hb d_Model_ofHut_55 (by rw [hs55_7]; decide) (by rw [hs55_7]; decide) (by rw [hs55_7]; rfl) (by decide) ?_
                      refine lv_iload hx hb d_Model_ofHut_204 (lv_at hl 1 rfl) ?_
                      refine lv_if_eq (tgt := 218) hx hb d_Model_ofHut_206 (by decide) (fun hc206 => ?_) (fun hc206 => ?_)
                      · replace hm := zif_t hc206 hm
                        refine lv_ldc hx hb hown (hts _ kw953) d_Model_ofHut_218 ?_
                        obtain ⟨rfl, rfl⟩ := zs2 hm
                        exact z_iret X hI d_Model_ofHut_220
                      · replace hm := zif_f hc206 hm
                        refine lv_aload_n hx hb d_Model_ofHut_209 rfl (lv_at hl 3 rfl) ?_
                        refine lv_iload_n hx hb d_Model_ofHut_210 rfl (lv_at hl 5 rfl) ?_
                        refine lv_iconst (v := (nI 3)) hx hb d_Model_ofHut_211 (by decide) ?_
                        obtain ⟨v212, hv, hm⟩ := zbd hm
                        obtain ⟨hq, hv⟩ := zcv_at hv
                        refine z_ci hI (z_runV (As := [.int x2, .int (nI 3)]) (rest := []) X hI hl.1 (c_Model_of l G K a0 x2 (nI 3) h21 _ hv) C_Model_155 rfl hq (Nat.le_of_ble_eq_true rfl) ⟨Nat.le_of_ble_eq_true rfl, Nat.le_of_ble_eq_true rfl, Nat.zero_le _, Nat.zero_le _⟩ rfl d_Model_ofHut_212) (fun H locs hI => ?_)
                        refine lv_goto (tgt := 220) hx hb d_Model_ofHut_215 (by decide) ?_
                        obtain ⟨rfl, rfl⟩ := zs2 hm
                        exact z_iret X hI d_Model_ofHut_220
                    · replace hm := zif_f hs55_7 hm
                      by_cases hs55_8 : x3 = (nI 8)
                      · replace hm := zif_t hs55_8 hm
                        refine lv_tableIn (off := 166) (tgt := 221) hx hb d_Model_ofHut_55 (by rw [hs55_8]; decide) (by rw [hs55_8]; decide) (by rw [hs55_8]; rfl) (by decide) ?_
                        refine lv_iload hx hb d_Model_ofHut_221 (lv_at hl 1 rfl) ?_
                        refine lv_if_eq (tgt := 235) hx hb d_Model_ofHut_223 (by decide) (fun hc223 => ?_) (fun hc223 => ?_)
                        · replace hm := zif_t hc223 hm
                          refine lv_ldc hx hb hown (hts _ kw953) d_Model_ofHut_235 ?_
                          obtain ⟨rfl, rfl⟩ := zs2 hm
                          exact z_iret X hI d_Model_ofHut_237
                        · replace hm := zif_f hc223 hm
                          refine lv_aload_n hx hb d_Model_ofHut_226 rfl (lv_at hl 3 rfl) ?_
                          refine lv_iload_n hx hb d_Model_ofHut_227 rfl (lv_at hl 5 rfl) ?_
                          refine lv_iconst (v := (nI 4)) hx hb d_Model_ofHut_228 (by decide) ?_
                          obtain ⟨v229, hv, hm⟩ := zbd hm
                          obtain ⟨hq, hv⟩ := zcv_at hv
                          refine z_ci hI (z_runV (As := [.int x2, .int (nI 4)]) (rest := []) X hI hl.1 (c_Model_of l G K a0 x2 (nI 4) h21 _ hv) C_Model_155 rfl hq (Nat.le_of_ble_eq_true rfl) ⟨Nat.le_of_ble_eq_true rfl, Nat.le_of_ble_eq_true rfl, Nat.zero_le _, Nat.zero_le _⟩ rfl d_Model_ofHut_229) (fun H locs hI => ?_)
                          refine lv_goto (tgt := 237) hx hb d_Model_ofHut_232 (by decide) ?_
                          obtain ⟨rfl, rfl⟩ := zs2 hm
                          exact z_iret X hI d_Model_ofHut_237
                      · replace hm := zif_f hs55_8 hm
                        by_cases hs55_9 : x3 = (nI 9)
                        · replace hm := zif_t hs55_9 hm
                          refine lv_tableIn (off := 183) (tgt := 238) hx hb d_Model_ofHut_55 (by rw [hs55_9]; decide) (by rw [hs55_9]; decide) (by rw [hs55_9]; rfl) (by decide) ?_
                          refine lv_iload hx hb d_Model_ofHut_238 (lv_at hl 0 rfl) ?_
                          refine lv_if_eq (tgt := 252) hx hb d_Model_ofHut_240 (by decide) (fun hc240 => ?_) (fun hc240 => ?_)
                          · replace hm := zif_t hc240 hm
                            refine lv_ldc hx hb hown (hts _ kw953) d_Model_ofHut_252 ?_
                            obtain ⟨rfl, rfl⟩ := zs2 hm
                            exact z_iret X hI d_Model_ofHut_254
                          · replace hm := zif_f hc240 hm
                            refine lv_aload_n hx hb d_Model_ofHut_243 rfl (lv_at hl 3 rfl) ?_
                            refine lv_iload_n hx hb d_Model_ofHut_244 rfl (lv_at hl 5 rfl) ?_
                            refine lv_iconst (v := (nI 3)) hx hb d_Model_ofHut_245 (by decide) ?_
                            obtain ⟨v246, hv, hm⟩ := zbd hm
                            obtain ⟨hq, hv⟩ := zcv_at hv
                            refine z_ci hI (z_runV (As := [.int x2, .int (nI 3)]) (rest := []) X hI hl.1 (c_Model_of l G K a0 x2 (nI 3) h21 _ hv) C_Model_155 rfl hq (Nat.le_of_ble_eq_true rfl) ⟨Nat.le_of_ble_eq_true rfl, Nat.le_of_ble_eq_true rfl, Nat.zero_le _, Nat.zero_le _⟩ rfl d_Model_ofHut_246) (fun H locs hI => ?_)
                            refine lv_goto (tgt := 254) hx hb d_Model_ofHut_249 (by decide) ?_
                            obtain ⟨rfl, rfl⟩ := zs2 hm
                            exact z_iret X hI d_Model_ofHut_254
                        · replace hm := zif_f hs55_9 hm
                          by_cases hs55_10 : x3 = (nI 10)
                          · replace hm := zif_t hs55_10 hm
                            refine lv_tableIn (off := 200) (tgt := 255) hx hb d_Model_ofHut_55 (by rw [hs55_10]; decide) (by rw [hs55_10]; decide) (by rw [hs55_10]; rfl) (by decide) ?_
                            refine lv_iload hx hb d_Model_ofHut_255 (lv_at hl 0 rfl) ?_
                            refine lv_if_eq (tgt := 269) hx hb d_Model_ofHut_257 (by decide) (fun hc257 => ?_) (fun hc257 => ?_)
                            · replace hm := zif_t hc257 hm
                              refine lv_ldc hx hb hown (hts _ kw953) d_Model_ofHut_269 ?_
                              obtain ⟨rfl, rfl⟩ := zs2 hm
                              exact z_iret X hI d_Model_ofHut_271
                            · replace hm := zif_f hc257 hm
                              refine lv_aload_n hx hb d_Model_ofHut_260 rfl (lv_at hl 3 rfl) ?_
                              refine lv_iload_n hx hb d_Model_ofHut_261 rfl (lv_at hl 5 rfl) ?_
                              refine lv_iconst (v := (nI 4)) hx hb d_Model_ofHut_262 (by decide) ?_
                              obtain ⟨v263, hv, hm⟩ := zbd hm
                              obtain ⟨hq, hv⟩ := zcv_at hv
                              refine z_ci hI (z_runV (As := [.int x2, .int (nI 4)]) (rest := []) X hI hl.1 (c_Model_of l G K a0 x2 (nI 4) h21 _ hv) C_Model_155 rfl hq (Nat.le_of_ble_eq_true rfl) ⟨Nat.le_of_ble_eq_true rfl, Nat.le_of_ble_eq_true rfl, Nat.zero_le _, Nat.zero_le _⟩ rfl d_Model_ofHut_263) (fun H locs hI => ?_)
                              refine lv_goto (tgt := 271) hx hb d_Model_ofHut_266 (by decide) ?_
                              obtain ⟨rfl, rfl⟩ := zs2 hm
                              exact z_iret X hI d_Model_ofHut_271
                          · replace hm := zif_f hs55_10 hm
                            have he0 : (x3).toInt ≠ 0 := fun q => hs55_0 (Int32.toInt_inj.mp (q.trans (by decide)))
                            have he1 : (x3).toInt ≠ 1 := fun q => hs55_1 (Int32.toInt_inj.mp (q.trans (by decide)))
                            have he2 : (x3).toInt ≠ 2 := fun q => hs55_2 (Int32.toInt_inj.mp (q.trans (by decide)))
                            have he3 : (x3).toInt ≠ 3 := fun q => hs55_3 (Int32.toInt_inj.mp (q.trans (by decide)))
                            have he4 : (x3).toInt ≠ 4 := fun q => hs55_4 (Int32.toInt_inj.mp (q.trans (by decide)))
                            have he5 : (x3).toInt ≠ 5 := fun q => hs55_5 (Int32.toInt_inj.mp (q.trans (by decide)))
                            have he6 : (x3).toInt ≠ 6 := fun q => hs55_6 (Int32.toInt_inj.mp (q.trans (by decide)))
                            have he7 : (x3).toInt ≠ 7 := fun q => hs55_7 (Int32.toInt_inj.mp (q.trans (by decide)))
                            have he8 : (x3).toInt ≠ 8 := fun q => hs55_8 (Int32.toInt_inj.mp (q.trans (by decide)))
                            have he9 : (x3).toInt ≠ 9 := fun q => hs55_9 (Int32.toInt_inj.mp (q.trans (by decide)))
                            have he10 : (x3).toInt ≠ 10 := fun q => hs55_10 (Int32.toInt_inj.mp (q.trans (by decide)))
                            refine lv_tableOut (tgt := 272) hx hb d_Model_ofHut_55 (by omega) (by decide) ?_
                            refine lv_ldc hx hb hown (hts _ kw953) d_Model_ofHut_272 ?_
                            obtain ⟨rfl, rfl⟩ := zs2 hm
                            exact z_iret X hI d_Model_ofHut_274
    · replace hm := zif_t hc13 hm
      refine lv_ldc hx hb hown (hts _ kw953) d_Model_ofHut_16 ?_
      obtain ⟨rfl, rfl⟩ := zs2 hm
      exact z_iret X hI d_Model_ofHut_18
set_option maxHeartbeats 4000000 in
set_option maxRecDepth 100000 in
theorem c_Model_ofHut (l : Launch) (G : zG) (K : Nat) (a0 : Nat) (x1 : Int32) (x2 : Int32) (x3 : Int32) (h : zH) (r : Int32) (h' : zH) (hm : m_Model_ofHut a0 x1 x2 x3 h = some (r, h')) : zMi l G K y_Model_ofHut prog_9_method_44_code 7 2 [.ref (G.1 a0), .int x1, .int x2, .int x3] h r h' := zMet (by decide +kernel) (Nat.le_of_ble_eq_true rfl) (fun p e s m below meth c ls X hI hl => r_Model_ofHut_0 X a0 x1 x2 x3 h hm hI hl)
-- walk of AllHomeModel.word
theorem d_Model_word_0 : decode prog_9_method_45_code 0 = .ok (.aload_n 0, 1) := by decide +kernel
theorem d_Model_word_1 : decode prog_9_method_45_code 1 = .ok (.iload_n 1, 1) := by decide +kernel
theorem d_Model_word_2 : decode prog_9_method_45_code 2 = .ok (.invokevirtual 220, 3) := by decide +kernel
theorem d_Model_word_5 : decode prog_9_method_45_code 5 = .ok (.ifCond .eq 15, 3) := by decide +kernel
theorem d_Model_word_8 : decode prog_9_method_45_code 8 = .ok (.iload_n 3, 1) := by decide +kernel
theorem d_Model_word_9 : decode prog_9_method_45_code 9 = .ok (.i2l, 1) := by decide +kernel
theorem d_Model_word_10 : decode prog_9_method_45_code 10 = .ok (.lconst 0, 1) := by decide +kernel
theorem d_Model_word_11 : decode prog_9_method_45_code 11 = .ok (.ldc2_w 232, 3) := by decide +kernel
theorem d_Model_word_14 : decode prog_9_method_45_code 14 = .ok (.invokestatic 87, 3) := by decide +kernel
theorem d_Model_word_17 : decode prog_9_method_45_code 17 = .ok (.ifCond .ne 5, 3) := by decide +kernel
theorem d_Model_word_20 : decode prog_9_method_45_code 20 = .ok (.iconst (-1), 1) := by decide +kernel
theorem d_Model_word_21 : decode prog_9_method_45_code 21 = .ok (.ireturn, 1) := by decide +kernel
theorem d_Model_word_22 : decode prog_9_method_45_code 22 = .ok (.aload_n 0, 1) := by decide +kernel
theorem d_Model_word_23 : decode prog_9_method_45_code 23 = .ok (.iload_n 1, 1) := by decide +kernel
theorem d_Model_word_24 : decode prog_9_method_45_code 24 = .ok (.invokevirtual 210, 3) := by decide +kernel
theorem d_Model_word_27 : decode prog_9_method_45_code 27 = .ok (.iload_n 2, 1) := by decide +kernel
theorem d_Model_word_28 : decode prog_9_method_45_code 28 = .ok (.ifCond .lt 27, 3) := by decide +kernel
theorem d_Model_word_31 : decode prog_9_method_45_code 31 = .ok (.iload_n 2, 1) := by decide +kernel
theorem d_Model_word_32 : decode prog_9_method_45_code 32 = .ok (.aload_n 0, 1) := by decide +kernel
theorem d_Model_word_33 : decode prog_9_method_45_code 33 = .ok (.invokevirtual 172, 3) := by decide +kernel
theorem d_Model_word_36 : decode prog_9_method_45_code 36 = .ok (.if_icmp .ge 19, 3) := by decide +kernel
theorem d_Model_word_39 : decode prog_9_method_45_code 39 = .ok (.aload_n 0, 1) := by decide +kernel
theorem d_Model_word_40 : decode prog_9_method_45_code 40 = .ok (.getfield 22, 3) := by decide +kernel
theorem d_Model_word_43 : decode prog_9_method_45_code 43 = .ok (.bipush 37, 2) := by decide +kernel
theorem d_Model_word_45 : decode prog_9_method_45_code 45 = .ok (.iconst 3, 1) := by decide +kernel
theorem d_Model_word_46 : decode prog_9_method_45_code 46 = .ok (.iload_n 2, 1) := by decide +kernel
theorem d_Model_word_47 : decode prog_9_method_45_code 47 = .ok (.imul, 1) := by decide +kernel
theorem d_Model_word_48 : decode prog_9_method_45_code 48 = .ok (.iadd, 1) := by decide +kernel
theorem d_Model_word_49 : decode prog_9_method_45_code 49 = .ok (.iload_n 3, 1) := by decide +kernel
theorem d_Model_word_50 : decode prog_9_method_45_code 50 = .ok (.iadd, 1) := by decide +kernel
theorem d_Model_word_51 : decode prog_9_method_45_code 51 = .ok (.iaload, 1) := by decide +kernel
theorem d_Model_word_52 : decode prog_9_method_45_code 52 = .ok (.goto 4, 3) := by decide +kernel
theorem d_Model_word_55 : decode prog_9_method_45_code 55 = .ok (.iconst (-1), 1) := by decide +kernel
theorem d_Model_word_56 : decode prog_9_method_45_code 56 = .ok (.ireturn, 1) := by decide +kernel
set_option maxHeartbeats 4000000 in
set_option maxRecDepth 100000 in
theorem r_Model_word_0 {p : Program} {l : Launch} {e : Env} {s : State} {m : MethodId} {args : Array Value} {below : List Frame} {meth : Method} {c : Code} {G : zG} {K : Nat} (X : zX p s m args meth c "AllHomeModel" prog_9_method_45_code 4 (some .int) G (zA G K)) {r : Int32} {h' : zH} (a0 : Nat) (x1 : Int32) (x2 : Int32) (x3 : Int32) (h : zH) (hm : m_Model_word a0 x1 x2 x3 h = some (r, h')) {H : Heap} {locs : List Loc} {ls : Array Slot} (hI : zI G K s (zA G K) H locs h) (hl : lv_has ls 4 [(0, .ref (G.1 a0)), (1, .int x1), (2, .int x2), (3, .int x3)]) : W p l e (zR 1) s m args below meth c H locs 0 0 (MQ below (zQi G K r h') args s 0 0 (zA G K)) (F0 m 0 ls []) := by
  obtain ⟨hx, hb, hml, hown, hts, hr, hlocks, hK, hST, hNs⟩ := id X
  unfold m_Model_word at hm
  refine lv_aload_n hx hb d_Model_word_0 rfl (lv_at hl 0 rfl) ?_
  refine lv_iload_n hx hb d_Model_word_1 rfl (lv_at hl 1 rfl) ?_
  obtain ⟨v2, hv, hm⟩ := zbd hm
  obtain ⟨hq, hv⟩ := zcv_at hv
  refine z_ci hI (z_runV (As := [.int x1]) (rest := []) X hI hl.1 (c_Model_isRun l G K a0 x1 h _ hv) C_Model_220 rfl hq (Nat.le_of_ble_eq_true rfl) ⟨Nat.le_of_ble_eq_true rfl, Nat.le_of_ble_eq_true rfl, Nat.zero_le _, Nat.zero_le _⟩ rfl d_Model_word_2) (fun H locs hI => ?_)
  refine lv_if_eq (tgt := 20) hx hb d_Model_word_5 (by decide) (fun hc5 => ?_) (fun hc5 => ?_)
  · replace hm := zif_t hc5 hm
    refine lv_iconst (v := (-1 : Int32)) hx hb d_Model_word_20 (by decide) ?_
    obtain ⟨rfl, rfl⟩ := zs2 hm
    exact z_iret X hI d_Model_word_21
  · replace hm := zif_f hc5 hm
    refine lv_iload_n hx hb d_Model_word_8 rfl (lv_at hl 3 rfl) ?_
    refine lv_i2l hx hb d_Model_word_9 rfl ?_
    refine lv_lconst (v := 0) hx hb d_Model_word_10 (by decide) ?_
    refine lv_ldc2 hx hb hown (hts _ kw958) d_Model_word_11 ?_
    obtain ⟨v14, hv, hm⟩ := zbd hm
    refine z_ci hI (z_runS (As := [.long x3.toInt64, .long (0 : Int64), .long (2 : Int64)]) (rest := []) X hI hl.1 (c_Model_within l G K x3.toInt64 (0 : Int64) (2 : Int64) h _ hv) C_Model_87 rfl (Nat.le_of_ble_eq_true rfl) ⟨Nat.le_of_ble_eq_true rfl, Nat.le_of_ble_eq_true rfl, Nat.zero_le _, Nat.zero_le _⟩ rfl d_Model_word_14) (fun H locs hI => ?_)
    refine lv_if_ne (tgt := 22) hx hb d_Model_word_17 (by decide) (fun hc17 => ?_) (fun hc17 => ?_)
    · replace hm := zif_f hc17 hm
      refine lv_aload_n hx hb d_Model_word_22 rfl (lv_at hl 0 rfl) ?_
      refine lv_iload_n hx hb d_Model_word_23 rfl (lv_at hl 1 rfl) ?_
      obtain ⟨h24, hv, hm⟩ := zbd hm
      obtain ⟨hq, hv⟩ := zcv_at hv
      refine z_cv hI (z_runV (As := [.int x1]) (rest := []) X hI hl.1 (c_Model_takeRun l G K a0 x1 h _ hv) C_Model_210 rfl hq (Nat.le_of_ble_eq_true rfl) ⟨Nat.le_of_ble_eq_true rfl, Nat.le_of_ble_eq_true rfl, Nat.zero_le _, Nat.zero_le _⟩ rfl d_Model_word_24) (fun H locs hI => ?_)
      refine lv_iload_n hx hb d_Model_word_27 rfl (lv_at hl 2 rfl) ?_
      refine lv_if_lt (tgt := 55) hx hb d_Model_word_28 (by decide) (fun hc28 => ?_) (fun hc28 => ?_)
      · replace hm := zif_t hc28 hm
        refine lv_iconst (v := (-1 : Int32)) hx hb d_Model_word_55 (by decide) ?_
        obtain ⟨rfl, rfl⟩ := zs2 hm
        exact z_iret X hI d_Model_word_56
      · replace hm := zif_f hc28 hm
        refine lv_iload_n hx hb d_Model_word_31 rfl (lv_at hl 2 rfl) ?_
        refine lv_aload_n hx hb d_Model_word_32 rfl (lv_at hl 0 rfl) ?_
        obtain ⟨v33, hv, hm⟩ := zbd hm
        obtain ⟨hq, hv⟩ := zcv_at hv
        refine z_ci hI (z_runV (As := []) (rest := [.int x2]) X hI hl.1 (c_Model_words l G K a0 h24 _ hv) C_Model_172 rfl hq (Nat.le_of_ble_eq_true rfl) ⟨Nat.le_of_ble_eq_true rfl, Nat.le_of_ble_eq_true rfl, Nat.zero_le _, Nat.zero_le _⟩ rfl d_Model_word_33) (fun H locs hI => ?_)
        refine lv_icmp_ge (tgt := 55) hx hb d_Model_word_36 (by decide) (fun hc36 => ?_) (fun hc36 => ?_)
        · replace hm := zif_t hc36 hm
          refine lv_iconst (v := (-1 : Int32)) hx hb d_Model_word_55 (by decide) ?_
          obtain ⟨rfl, rfl⟩ := zs2 hm
          exact z_iret X hI d_Model_word_56
        · replace hm := zif_f hc36 hm
          refine lv_aload_n hx hb d_Model_word_39 rfl (lv_at hl 0 rfl) ?_
          obtain ⟨v40, hv, hm⟩ := zbd hm
          refine z_getR X hI F_Model_22 hv d_Model_word_40 ?_
          refine lv_bipush (v := (nI 37)) hx hb d_Model_word_43 (by decide) ?_
          refine lv_iconst (v := (nI 3)) hx hb d_Model_word_45 (by decide) ?_
          refine lv_iload_n hx hb d_Model_word_46 rfl (lv_at hl 2 rfl) ?_
          refine lv_imul hx hb d_Model_word_47 ?_
          refine lv_iadd hx hb d_Model_word_48 ?_
          refine lv_iload_n hx hb d_Model_word_49 rfl (lv_at hl 3 rfl) ?_
          refine lv_iadd hx hb d_Model_word_50 ?_
          obtain ⟨v51, hv, hm⟩ := zbd hm
          refine z_iald X hI hv d_Model_word_51 ?_
          refine lv_goto (tgt := 56) hx hb d_Model_word_52 (by decide) ?_
          obtain ⟨rfl, rfl⟩ := zs2 hm
          exact z_iret X hI d_Model_word_56
    · replace hm := zif_t hc17 hm
      refine lv_iconst (v := (-1 : Int32)) hx hb d_Model_word_20 (by decide) ?_
      obtain ⟨rfl, rfl⟩ := zs2 hm
      exact z_iret X hI d_Model_word_21
set_option maxHeartbeats 4000000 in
set_option maxRecDepth 100000 in
theorem c_Model_word (l : Launch) (G : zG) (K : Nat) (a0 : Nat) (x1 : Int32) (x2 : Int32) (x3 : Int32) (h : zH) (r : Int32) (h' : zH) (hm : m_Model_word a0 x1 x2 x3 h = some (r, h')) : zMi l G K y_Model_word prog_9_method_45_code 4 1 [.ref (G.1 a0), .int x1, .int x2, .int x3] h r h' := zMet (by decide +kernel) (Nat.le_of_ble_eq_true rfl) (fun p e s m below meth c ls X hI hl => r_Model_word_0 X a0 x1 x2 x3 h hm hI hl)
-- walk of AllHomeModel.note
theorem d_Model_note_0 : decode prog_9_method_46_code 0 = .ok (.aload_n 0, 1) := by decide +kernel
theorem d_Model_note_1 : decode prog_9_method_46_code 1 = .ok (.iload_n 1, 1) := by decide +kernel
theorem d_Model_note_2 : decode prog_9_method_46_code 2 = .ok (.invokevirtual 220, 3) := by decide +kernel
theorem d_Model_note_5 : decode prog_9_method_46_code 5 = .ok (.ifCond .eq 15, 3) := by decide +kernel
theorem d_Model_note_8 : decode prog_9_method_46_code 8 = .ok (.iload_n 3, 1) := by decide +kernel
theorem d_Model_note_9 : decode prog_9_method_46_code 9 = .ok (.i2l, 1) := by decide +kernel
theorem d_Model_note_10 : decode prog_9_method_46_code 10 = .ok (.lconst 0, 1) := by decide +kernel
theorem d_Model_note_11 : decode prog_9_method_46_code 11 = .ok (.ldc2_w 232, 3) := by decide +kernel
theorem d_Model_note_14 : decode prog_9_method_46_code 14 = .ok (.invokestatic 87, 3) := by decide +kernel
theorem d_Model_note_17 : decode prog_9_method_46_code 17 = .ok (.ifCond .ne 6, 3) := by decide +kernel
theorem d_Model_note_20 : decode prog_9_method_46_code 20 = .ok (.ldc 231, 2) := by decide +kernel
theorem d_Model_note_22 : decode prog_9_method_46_code 22 = .ok (.ireturn, 1) := by decide +kernel
theorem d_Model_note_23 : decode prog_9_method_46_code 23 = .ok (.aload_n 0, 1) := by decide +kernel
theorem d_Model_note_24 : decode prog_9_method_46_code 24 = .ok (.iload_n 1, 1) := by decide +kernel
theorem d_Model_note_25 : decode prog_9_method_46_code 25 = .ok (.invokevirtual 210, 3) := by decide +kernel
theorem d_Model_note_28 : decode prog_9_method_46_code 28 = .ok (.iload_n 2, 1) := by decide +kernel
theorem d_Model_note_29 : decode prog_9_method_46_code 29 = .ok (.ifCond .lt 27, 3) := by decide +kernel
theorem d_Model_note_32 : decode prog_9_method_46_code 32 = .ok (.iload_n 2, 1) := by decide +kernel
theorem d_Model_note_33 : decode prog_9_method_46_code 33 = .ok (.aload_n 0, 1) := by decide +kernel
theorem d_Model_note_34 : decode prog_9_method_46_code 34 = .ok (.invokevirtual 179, 3) := by decide +kernel
theorem d_Model_note_37 : decode prog_9_method_46_code 37 = .ok (.if_icmp .ge 19, 3) := by decide +kernel
theorem d_Model_note_40 : decode prog_9_method_46_code 40 = .ok (.aload_n 0, 1) := by decide +kernel
theorem d_Model_note_41 : decode prog_9_method_46_code 41 = .ok (.getfield 22, 3) := by decide +kernel
theorem d_Model_note_44 : decode prog_9_method_46_code 44 = .ok (.bipush 62, 2) := by decide +kernel
theorem d_Model_note_46 : decode prog_9_method_46_code 46 = .ok (.iconst 3, 1) := by decide +kernel
theorem d_Model_note_47 : decode prog_9_method_46_code 47 = .ok (.iload_n 2, 1) := by decide +kernel
theorem d_Model_note_48 : decode prog_9_method_46_code 48 = .ok (.imul, 1) := by decide +kernel
theorem d_Model_note_49 : decode prog_9_method_46_code 49 = .ok (.iadd, 1) := by decide +kernel
theorem d_Model_note_50 : decode prog_9_method_46_code 50 = .ok (.iload_n 3, 1) := by decide +kernel
theorem d_Model_note_51 : decode prog_9_method_46_code 51 = .ok (.iadd, 1) := by decide +kernel
theorem d_Model_note_52 : decode prog_9_method_46_code 52 = .ok (.iaload, 1) := by decide +kernel
theorem d_Model_note_53 : decode prog_9_method_46_code 53 = .ok (.goto 5, 3) := by decide +kernel
theorem d_Model_note_56 : decode prog_9_method_46_code 56 = .ok (.ldc 231, 2) := by decide +kernel
theorem d_Model_note_58 : decode prog_9_method_46_code 58 = .ok (.ireturn, 1) := by decide +kernel
set_option maxHeartbeats 4000000 in
set_option maxRecDepth 100000 in
theorem r_Model_note_0 {p : Program} {l : Launch} {e : Env} {s : State} {m : MethodId} {args : Array Value} {below : List Frame} {meth : Method} {c : Code} {G : zG} {K : Nat} (X : zX p s m args meth c "AllHomeModel" prog_9_method_46_code 4 (some .int) G (zA G K)) {r : Int32} {h' : zH} (a0 : Nat) (x1 : Int32) (x2 : Int32) (x3 : Int32) (h : zH) (hm : m_Model_note a0 x1 x2 x3 h = some (r, h')) {H : Heap} {locs : List Loc} {ls : Array Slot} (hI : zI G K s (zA G K) H locs h) (hl : lv_has ls 4 [(0, .ref (G.1 a0)), (1, .int x1), (2, .int x2), (3, .int x3)]) : W p l e (zR 1) s m args below meth c H locs 0 0 (MQ below (zQi G K r h') args s 0 0 (zA G K)) (F0 m 0 ls []) := by
  obtain ⟨hx, hb, hml, hown, hts, hr, hlocks, hK, hST, hNs⟩ := id X
  unfold m_Model_note at hm
  refine lv_aload_n hx hb d_Model_note_0 rfl (lv_at hl 0 rfl) ?_
  refine lv_iload_n hx hb d_Model_note_1 rfl (lv_at hl 1 rfl) ?_
  obtain ⟨v2, hv, hm⟩ := zbd hm
  obtain ⟨hq, hv⟩ := zcv_at hv
  refine z_ci hI (z_runV (As := [.int x1]) (rest := []) X hI hl.1 (c_Model_isRun l G K a0 x1 h _ hv) C_Model_220 rfl hq (Nat.le_of_ble_eq_true rfl) ⟨Nat.le_of_ble_eq_true rfl, Nat.le_of_ble_eq_true rfl, Nat.zero_le _, Nat.zero_le _⟩ rfl d_Model_note_2) (fun H locs hI => ?_)
  refine lv_if_eq (tgt := 20) hx hb d_Model_note_5 (by decide) (fun hc5 => ?_) (fun hc5 => ?_)
  · replace hm := zif_t hc5 hm
    refine lv_ldc hx hb hown (hts _ kw953) d_Model_note_20 ?_
    obtain ⟨rfl, rfl⟩ := zs2 hm
    exact z_iret X hI d_Model_note_22
  · replace hm := zif_f hc5 hm
    refine lv_iload_n hx hb d_Model_note_8 rfl (lv_at hl 3 rfl) ?_
    refine lv_i2l hx hb d_Model_note_9 rfl ?_
    refine lv_lconst (v := 0) hx hb d_Model_note_10 (by decide) ?_
    refine lv_ldc2 hx hb hown (hts _ kw958) d_Model_note_11 ?_
    obtain ⟨v14, hv, hm⟩ := zbd hm
    refine z_ci hI (z_runS (As := [.long x3.toInt64, .long (0 : Int64), .long (2 : Int64)]) (rest := []) X hI hl.1 (c_Model_within l G K x3.toInt64 (0 : Int64) (2 : Int64) h _ hv) C_Model_87 rfl (Nat.le_of_ble_eq_true rfl) ⟨Nat.le_of_ble_eq_true rfl, Nat.le_of_ble_eq_true rfl, Nat.zero_le _, Nat.zero_le _⟩ rfl d_Model_note_14) (fun H locs hI => ?_)
    refine lv_if_ne (tgt := 23) hx hb d_Model_note_17 (by decide) (fun hc17 => ?_) (fun hc17 => ?_)
    · replace hm := zif_f hc17 hm
      refine lv_aload_n hx hb d_Model_note_23 rfl (lv_at hl 0 rfl) ?_
      refine lv_iload_n hx hb d_Model_note_24 rfl (lv_at hl 1 rfl) ?_
      obtain ⟨h25, hv, hm⟩ := zbd hm
      obtain ⟨hq, hv⟩ := zcv_at hv
      refine z_cv hI (z_runV (As := [.int x1]) (rest := []) X hI hl.1 (c_Model_takeRun l G K a0 x1 h _ hv) C_Model_210 rfl hq (Nat.le_of_ble_eq_true rfl) ⟨Nat.le_of_ble_eq_true rfl, Nat.le_of_ble_eq_true rfl, Nat.zero_le _, Nat.zero_le _⟩ rfl d_Model_note_25) (fun H locs hI => ?_)
      refine lv_iload_n hx hb d_Model_note_28 rfl (lv_at hl 2 rfl) ?_
      refine lv_if_lt (tgt := 56) hx hb d_Model_note_29 (by decide) (fun hc29 => ?_) (fun hc29 => ?_)
      · replace hm := zif_t hc29 hm
        refine lv_ldc hx hb hown (hts _ kw953) d_Model_note_56 ?_
        obtain ⟨rfl, rfl⟩ := zs2 hm
        exact z_iret X hI d_Model_note_58
      · replace hm := zif_f hc29 hm
        refine lv_iload_n hx hb d_Model_note_32 rfl (lv_at hl 2 rfl) ?_
        refine lv_aload_n hx hb d_Model_note_33 rfl (lv_at hl 0 rfl) ?_
        obtain ⟨v34, hv, hm⟩ := zbd hm
        obtain ⟨hq, hv⟩ := zcv_at hv
        refine z_ci hI (z_runV (As := []) (rest := [.int x2]) X hI hl.1 (c_Model_notes l G K a0 h25 _ hv) C_Model_179 rfl hq (Nat.le_of_ble_eq_true rfl) ⟨Nat.le_of_ble_eq_true rfl, Nat.le_of_ble_eq_true rfl, Nat.zero_le _, Nat.zero_le _⟩ rfl d_Model_note_34) (fun H locs hI => ?_)
        refine lv_icmp_ge (tgt := 56) hx hb d_Model_note_37 (by decide) (fun hc37 => ?_) (fun hc37 => ?_)
        · replace hm := zif_t hc37 hm
          refine lv_ldc hx hb hown (hts _ kw953) d_Model_note_56 ?_
          obtain ⟨rfl, rfl⟩ := zs2 hm
          exact z_iret X hI d_Model_note_58
        · replace hm := zif_f hc37 hm
          refine lv_aload_n hx hb d_Model_note_40 rfl (lv_at hl 0 rfl) ?_
          obtain ⟨v41, hv, hm⟩ := zbd hm
          refine z_getR X hI F_Model_22 hv d_Model_note_41 ?_
          refine lv_bipush (v := (nI 62)) hx hb d_Model_note_44 (by decide) ?_
          refine lv_iconst (v := (nI 3)) hx hb d_Model_note_46 (by decide) ?_
          refine lv_iload_n hx hb d_Model_note_47 rfl (lv_at hl 2 rfl) ?_
          refine lv_imul hx hb d_Model_note_48 ?_
          refine lv_iadd hx hb d_Model_note_49 ?_
          refine lv_iload_n hx hb d_Model_note_50 rfl (lv_at hl 3 rfl) ?_
          refine lv_iadd hx hb d_Model_note_51 ?_
          obtain ⟨v52, hv, hm⟩ := zbd hm
          refine z_iald X hI hv d_Model_note_52 ?_
          refine lv_goto (tgt := 58) hx hb d_Model_note_53 (by decide) ?_
          obtain ⟨rfl, rfl⟩ := zs2 hm
          exact z_iret X hI d_Model_note_58
    · replace hm := zif_t hc17 hm
      refine lv_ldc hx hb hown (hts _ kw953) d_Model_note_20 ?_
      obtain ⟨rfl, rfl⟩ := zs2 hm
      exact z_iret X hI d_Model_note_22
set_option maxHeartbeats 4000000 in
set_option maxRecDepth 100000 in
theorem c_Model_note (l : Launch) (G : zG) (K : Nat) (a0 : Nat) (x1 : Int32) (x2 : Int32) (x3 : Int32) (h : zH) (r : Int32) (h' : zH) (hm : m_Model_note a0 x1 x2 x3 h = some (r, h')) : zMi l G K y_Model_note prog_9_method_46_code 4 1 [.ref (G.1 a0), .int x1, .int x2, .int x3] h r h' := zMet (by decide +kernel) (Nat.le_of_ble_eq_true rfl) (fun p e s m below meth c ls X hI hl => r_Model_note_0 X a0 x1 x2 x3 h hm hI hl)
-- walk of AllHomeModel.total
theorem d_Model_total_0 : decode prog_9_method_47_code 0 = .ok (.aload_n 0, 1) := by decide +kernel
theorem d_Model_total_1 : decode prog_9_method_47_code 1 = .ok (.iload_n 1, 1) := by decide +kernel
theorem d_Model_total_2 : decode prog_9_method_47_code 2 = .ok (.invokevirtual 220, 3) := by decide +kernel
theorem d_Model_total_5 : decode prog_9_method_47_code 5 = .ok (.ifCond .ne 5, 3) := by decide +kernel
theorem d_Model_total_8 : decode prog_9_method_47_code 8 = .ok (.iconst (-1), 1) := by decide +kernel
theorem d_Model_total_9 : decode prog_9_method_47_code 9 = .ok (.ireturn, 1) := by decide +kernel
theorem d_Model_total_10 : decode prog_9_method_47_code 10 = .ok (.aload_n 0, 1) := by decide +kernel
theorem d_Model_total_11 : decode prog_9_method_47_code 11 = .ok (.iload_n 1, 1) := by decide +kernel
theorem d_Model_total_12 : decode prog_9_method_47_code 12 = .ok (.invokevirtual 210, 3) := by decide +kernel
theorem d_Model_total_15 : decode prog_9_method_47_code 15 = .ok (.aload_n 0, 1) := by decide +kernel
theorem d_Model_total_16 : decode prog_9_method_47_code 16 = .ok (.getfield 134, 3) := by decide +kernel
theorem d_Model_total_19 : decode prog_9_method_47_code 19 = .ok (.iconst 1, 1) := by decide +kernel
theorem d_Model_total_20 : decode prog_9_method_47_code 20 = .ok (.if_icmp .ne 13, 3) := by decide +kernel
theorem d_Model_total_23 : decode prog_9_method_47_code 23 = .ok (.aload_n 0, 1) := by decide +kernel
theorem d_Model_total_24 : decode prog_9_method_47_code 24 = .ok (.getfield 22, 3) := by decide +kernel
theorem d_Model_total_27 : decode prog_9_method_47_code 27 = .ok (.bipush 86, 2) := by decide +kernel
theorem d_Model_total_29 : decode prog_9_method_47_code 29 = .ok (.iaload, 1) := by decide +kernel
theorem d_Model_total_30 : decode prog_9_method_47_code 30 = .ok (.goto 5, 3) := by decide +kernel
theorem d_Model_total_33 : decode prog_9_method_47_code 33 = .ok (.bipush (-2), 2) := by decide +kernel
theorem d_Model_total_35 : decode prog_9_method_47_code 35 = .ok (.ireturn, 1) := by decide +kernel
set_option maxHeartbeats 4000000 in
set_option maxRecDepth 100000 in
theorem r_Model_total_0 {p : Program} {l : Launch} {e : Env} {s : State} {m : MethodId} {args : Array Value} {below : List Frame} {meth : Method} {c : Code} {G : zG} {K : Nat} (X : zX p s m args meth c "AllHomeModel" prog_9_method_47_code 2 (some .int) G (zA G K)) {r : Int32} {h' : zH} (a0 : Nat) (x1 : Int32) (h : zH) (hm : m_Model_total a0 x1 h = some (r, h')) {H : Heap} {locs : List Loc} {ls : Array Slot} (hI : zI G K s (zA G K) H locs h) (hl : lv_has ls 2 [(0, .ref (G.1 a0)), (1, .int x1)]) : W p l e (zR 1) s m args below meth c H locs 0 0 (MQ below (zQi G K r h') args s 0 0 (zA G K)) (F0 m 0 ls []) := by
  obtain ⟨hx, hb, hml, hown, hts, hr, hlocks, hK, hST, hNs⟩ := id X
  unfold m_Model_total at hm
  refine lv_aload_n hx hb d_Model_total_0 rfl (lv_at hl 0 rfl) ?_
  refine lv_iload_n hx hb d_Model_total_1 rfl (lv_at hl 1 rfl) ?_
  obtain ⟨v2, hv, hm⟩ := zbd hm
  obtain ⟨hq, hv⟩ := zcv_at hv
  refine z_ci hI (z_runV (As := [.int x1]) (rest := []) X hI hl.1 (c_Model_isRun l G K a0 x1 h _ hv) C_Model_220 rfl hq (Nat.le_of_ble_eq_true rfl) ⟨Nat.le_of_ble_eq_true rfl, Nat.le_of_ble_eq_true rfl, Nat.zero_le _, Nat.zero_le _⟩ rfl d_Model_total_2) (fun H locs hI => ?_)
  refine lv_if_ne (tgt := 10) hx hb d_Model_total_5 (by decide) (fun hc5 => ?_) (fun hc5 => ?_)
  · replace hm := zif_f hc5 hm
    refine lv_aload_n hx hb d_Model_total_10 rfl (lv_at hl 0 rfl) ?_
    refine lv_iload_n hx hb d_Model_total_11 rfl (lv_at hl 1 rfl) ?_
    obtain ⟨h12, hv, hm⟩ := zbd hm
    obtain ⟨hq, hv⟩ := zcv_at hv
    refine z_cv hI (z_runV (As := [.int x1]) (rest := []) X hI hl.1 (c_Model_takeRun l G K a0 x1 h _ hv) C_Model_210 rfl hq (Nat.le_of_ble_eq_true rfl) ⟨Nat.le_of_ble_eq_true rfl, Nat.le_of_ble_eq_true rfl, Nat.zero_le _, Nat.zero_le _⟩ rfl d_Model_total_12) (fun H locs hI => ?_)
    refine lv_aload_n hx hb d_Model_total_15 rfl (lv_at hl 0 rfl) ?_
    obtain ⟨v16, hv, hm⟩ := zbd hm
    refine z_getI X hI F_Model_134 hv d_Model_total_16 ?_
    refine lv_iconst (v := (nI 1)) hx hb d_Model_total_19 (by decide) ?_
    refine lv_icmp_ne (tgt := 33) hx hb d_Model_total_20 (by decide) (fun hc20 => ?_) (fun hc20 => ?_)
    · replace hm := zif_f hc20 hm
      refine lv_bipush (v := (-2 : Int32)) hx hb d_Model_total_33 (by decide) ?_
      obtain ⟨rfl, rfl⟩ := zs2 hm
      exact z_iret X hI d_Model_total_35
    · replace hm := zif_t hc20 hm
      refine lv_aload_n hx hb d_Model_total_23 rfl (lv_at hl 0 rfl) ?_
      obtain ⟨v24, hv, hm⟩ := zbd hm
      refine z_getR X hI F_Model_22 hv d_Model_total_24 ?_
      refine lv_bipush (v := (nI 86)) hx hb d_Model_total_27 (by decide) ?_
      obtain ⟨v29, hv, hm⟩ := zbd hm
      refine z_iald X hI hv d_Model_total_29 ?_
      refine lv_goto (tgt := 35) hx hb d_Model_total_30 (by decide) ?_
      obtain ⟨rfl, rfl⟩ := zs2 hm
      exact z_iret X hI d_Model_total_35
  · replace hm := zif_t hc5 hm
    refine lv_iconst (v := (-1 : Int32)) hx hb d_Model_total_8 (by decide) ?_
    obtain ⟨rfl, rfl⟩ := zs2 hm
    exact z_iret X hI d_Model_total_9
set_option maxHeartbeats 4000000 in
set_option maxRecDepth 100000 in
theorem c_Model_total (l : Launch) (G : zG) (K : Nat) (a0 : Nat) (x1 : Int32) (h : zH) (r : Int32) (h' : zH) (hm : m_Model_total a0 x1 h = some (r, h')) : zMi l G K y_Model_total prog_9_method_47_code 2 1 [.ref (G.1 a0), .int x1] h r h' := zMet (by decide +kernel) (Nat.le_of_ble_eq_true rfl) (fun p e s m below meth c ls X hI hl => r_Model_total_0 X a0 x1 h hm hI hl)
-- walk of AllHomeModel.bringBack
theorem d_Model_bringBack_0 : decode prog_9_method_48_code 0 = .ok (.iconst 0, 1) := by decide +kernel
theorem d_Model_bringBack_1 : decode prog_9_method_48_code 1 = .ok (.istore_n 2, 1) := by decide +kernel
theorem d_Model_bringBack_2 : decode prog_9_method_48_code 2 = .ok (.iload_n 2, 1) := by decide +kernel
theorem d_Model_bringBack_3 : decode prog_9_method_48_code 3 = .ok (.bipush 91, 2) := by decide +kernel
theorem d_Model_bringBack_5 : decode prog_9_method_48_code 5 = .ok (.if_icmp .ge 26, 3) := by decide +kernel
theorem d_Model_bringBack_8 : decode prog_9_method_48_code 8 = .ok (.aload_n 0, 1) := by decide +kernel
theorem d_Model_bringBack_9 : decode prog_9_method_48_code 9 = .ok (.getfield 22, 3) := by decide +kernel
theorem d_Model_bringBack_12 : decode prog_9_method_48_code 12 = .ok (.iload_n 2, 1) := by decide +kernel
theorem d_Model_bringBack_13 : decode prog_9_method_48_code 13 = .ok (.aload_n 0, 1) := by decide +kernel
theorem d_Model_bringBack_14 : decode prog_9_method_48_code 14 = .ok (.getfield 46, 3) := by decide +kernel
theorem d_Model_bringBack_17 : decode prog_9_method_48_code 17 = .ok (.bipush 91, 2) := by decide +kernel
theorem d_Model_bringBack_19 : decode prog_9_method_48_code 19 = .ok (.iload_n 1, 1) := by decide +kernel
theorem d_Model_bringBack_20 : decode prog_9_method_48_code 20 = .ok (.imul, 1) := by decide +kernel
theorem d_Model_bringBack_21 : decode prog_9_method_48_code 21 = .ok (.iload_n 2, 1) := by decide +kernel
theorem d_Model_bringBack_22 : decode prog_9_method_48_code 22 = .ok (.iadd, 1) := by decide +kernel
theorem d_Model_bringBack_23 : decode prog_9_method_48_code 23 = .ok (.iaload, 1) := by decide +kernel
theorem d_Model_bringBack_24 : decode prog_9_method_48_code 24 = .ok (.iastore, 1) := by decide +kernel
theorem d_Model_bringBack_25 : decode prog_9_method_48_code 25 = .ok (.iinc 2 1, 3) := by decide +kernel
theorem d_Model_bringBack_28 : decode prog_9_method_48_code 28 = .ok (.goto (-26), 3) := by decide +kernel
theorem d_Model_bringBack_31 : decode prog_9_method_48_code 31 = .ok (.return_, 1) := by decide +kernel
set_option maxHeartbeats 4000000 in
set_option maxRecDepth 100000 in
theorem r_Model_bringBack_2_b {p : Program} {l : Launch} {e : Env} {s : State} {m : MethodId} {args : Array Value} {below : List Frame} {meth : Method} {c : Code} {G : zG} {K : Nat} (X : zX p s m args meth c "AllHomeModel" prog_9_method_48_code 3 none G (zA G K)) {h' : zH} (a0 : Nat) (x1 : Int32) (k2 : (Int32 × zH) → Option zH) (hk2 : ∀ (w : Int32 × zH), k2 w = some h' → ∀ (H : Heap) (locs : List Loc) (ls : Array Slot), zI G K s (zA G K) H locs w.2 → lv_has ls 3 [(0, .ref (G.1 a0)), (1, .int x1), (2, .int w.1)] → W p l e (zR 0) s m args below meth c H locs 0 0 (MQ below (zQv G K h') args s 0 0 (zA G K)) (F0 m 2 ls [])) (u : Int32 × zH) (hm : g_Model_bringBack_2 a0 x1 k2 u = some h') {H : Heap} {locs : List Loc} {ls : Array Slot} (hI : zI G K s (zA G K) H locs u.2) (hl : lv_has ls 3 [(0, .ref (G.1 a0)), (1, .int x1), (2, .int u.1)]) : W p l e (zR 0) s m args below meth c H locs 0 0 (MQ below (zQv G K h') args s 0 0 (zA G K)) (F0 m 2 ls []) := by
  obtain ⟨hx, hb, hml, hown, hts, hr, hlocks, hK, hST, hNs⟩ := id X
  unfold g_Model_bringBack_2 at hm
  refine lv_iload_n hx hb d_Model_bringBack_2 rfl (lv_at hl 2 rfl) ?_
  refine lv_bipush (v := (nI 91)) hx hb d_Model_bringBack_3 (by decide) ?_
  refine lv_icmp_ge (tgt := 31) hx hb d_Model_bringBack_5 (by decide) (fun hc5 => ?_) (fun hc5 => ?_)
  · replace hm := zif_t hc5 hm
    obtain rfl := zs1 hm
    exact z_vret X hI d_Model_bringBack_31
  · replace hm := zif_f hc5 hm
    refine lv_aload_n hx hb d_Model_bringBack_8 rfl (lv_at hl 0 rfl) ?_
    obtain ⟨v9, hv, hm⟩ := zbd hm
    refine z_getR X hI F_Model_22 hv d_Model_bringBack_9 ?_
    refine lv_iload_n hx hb d_Model_bringBack_12 rfl (lv_at hl 2 rfl) ?_
    refine lv_aload_n hx hb d_Model_bringBack_13 rfl (lv_at hl 0 rfl) ?_
    obtain ⟨v14, hv, hm⟩ := zbd hm
    refine z_getR X hI F_Model_46 hv d_Model_bringBack_14 ?_
    refine lv_bipush (v := (nI 91)) hx hb d_Model_bringBack_17 (by decide) ?_
    refine lv_iload_n hx hb d_Model_bringBack_19 rfl (lv_at hl 1 rfl) ?_
    refine lv_imul hx hb d_Model_bringBack_20 ?_
    refine lv_iload_n hx hb d_Model_bringBack_21 rfl (lv_at hl 2 rfl) ?_
    refine lv_iadd hx hb d_Model_bringBack_22 ?_
    obtain ⟨v23, hv, hm⟩ := zbd hm
    refine z_iald X hI hv d_Model_bringBack_23 ?_
    obtain ⟨h24, hv, hm⟩ := zbd hm
    refine z_iast X hI hv d_Model_bringBack_24 (fun H locs hI => ?_)
    refine lv_iinc (v := (u.1 + (nI 1))) (lv' := [(2, .int (u.1 + (nI 1))), (0, .ref (G.1 a0)), (1, .int x1)]) hx hb d_Model_bringBack_25 hl (k := 2) rfl (congrArg (fun z => u.1 + z) (show Int32.ofInt (1) = (nI 1) by decide)) (by decide) rfl (fun ls hl => ?_)
    refine lv_goto (tgt := 2) hx hb d_Model_bringBack_28 (by decide) ?_
    obtain ⟨g0, e0⟩ : ∃ z, z = (u.1 + (nI 1)) := ⟨_, rfl⟩
    rw [← e0] at hm hl
    exact hk2 (g0, h24) hm _ _ _ hI (lv_sub hl [1, 2, 0] rfl)
theorem r_Model_bringBack_2 {p : Program} {l : Launch} {e : Env} {s : State} {m : MethodId} {args : Array Value} {below : List Frame} {meth : Method} {c : Code} {G : zG} {K : Nat} (X : zX p s m args meth c "AllHomeModel" prog_9_method_48_code 3 none G (zA G K)) {h' : zH} (a0 : Nat) (x1 : Int32) : ∀ (n : Nat) (w : Int32 × zH), zloop (g_Model_bringBack_2 a0 x1) n w = some h' → ∀ (H : Heap) (locs : List Loc) (ls : Array Slot), zI G K s (zA G K) H locs w.2 → lv_has ls 3 [(0, .ref (G.1 a0)), (1, .int x1), (2, .int w.1)] → W p l e (zR 0) s m args below meth c H locs 0 0 (MQ below (zQv G K h') args s 0 0 (zA G K)) (F0 m 2 ls []) := by
  intro n
  induction n with
  | zero => intro w hm; cases hm
  | succ n ih => intro w hm H locs ls hI hl; exact r_Model_bringBack_2_b X a0 x1 (zloop (g_Model_bringBack_2 a0 x1) n) ih w (zls hm) hI hl
set_option maxHeartbeats 4000000 in
set_option maxRecDepth 100000 in
theorem r_Model_bringBack_0 {p : Program} {l : Launch} {e : Env} {s : State} {m : MethodId} {args : Array Value} {below : List Frame} {meth : Method} {c : Code} {G : zG} {K : Nat} (X : zX p s m args meth c "AllHomeModel" prog_9_method_48_code 3 none G (zA G K)) {h' : zH} (a0 : Nat) (x1 : Int32) (h : zH) (hm : m_Model_bringBack a0 x1 h = some h') {H : Heap} {locs : List Loc} {ls : Array Slot} (hI : zI G K s (zA G K) H locs h) (hl : lv_has ls 3 [(0, .ref (G.1 a0)), (1, .int x1)]) : W p l e (zR 0) s m args below meth c H locs 0 0 (MQ below (zQv G K h') args s 0 0 (zA G K)) (F0 m 0 ls []) := by
  obtain ⟨hx, hb, hml, hown, hts, hr, hlocks, hK, hST, hNs⟩ := id X
  unfold m_Model_bringBack at hm
  refine lv_iconst (v := (nI 0)) hx hb d_Model_bringBack_0 (by decide) ?_
  refine lv_istore_n (lv' := [(2, .int (nI 0)), (0, .ref (G.1 a0)), (1, .int x1)]) hx hb d_Model_bringBack_1 rfl hl (by decide) rfl (fun ls hl => ?_)
  exact r_Model_bringBack_2 X a0 x1 zN ((nI 0), h) hm _ _ _ hI (lv_sub hl [1, 2, 0] rfl)
set_option maxHeartbeats 4000000 in
set_option maxRecDepth 100000 in
theorem c_Model_bringBack (l : Launch) (G : zG) (K : Nat) (a0 : Nat) (x1 : Int32) (h : zH) (h' : zH) (hm : m_Model_bringBack a0 x1 h = some h') : zMv l G K y_Model_bringBack prog_9_method_48_code 3 0 [.ref (G.1 a0), .int x1] h h' := zMet (by decide +kernel) (Nat.le_of_ble_eq_true rfl) (fun p e s m below meth c ls X hI hl => r_Model_bringBack_0 X a0 x1 h hm hI hl)
-- walk of AllHomeModel.findState
theorem d_Model_findState_0 : decode prog_9_method_49_code 0 = .ok (.iconst 0, 1) := by decide +kernel
theorem d_Model_findState_1 : decode prog_9_method_49_code 1 = .ok (.istore_n 1, 1) := by decide +kernel
theorem d_Model_findState_2 : decode prog_9_method_49_code 2 = .ok (.iload_n 1, 1) := by decide +kernel
theorem d_Model_findState_3 : decode prog_9_method_49_code 3 = .ok (.aload_n 0, 1) := by decide +kernel
theorem d_Model_findState_4 : decode prog_9_method_49_code 4 = .ok (.getfield 234, 3) := by decide +kernel
theorem d_Model_findState_7 : decode prog_9_method_49_code 7 = .ok (.if_icmp .ge 61, 3) := by decide +kernel
theorem d_Model_findState_10 : decode prog_9_method_49_code 10 = .ok (.iconst 1, 1) := by decide +kernel
theorem d_Model_findState_11 : decode prog_9_method_49_code 11 = .ok (.istore_n 2, 1) := by decide +kernel
theorem d_Model_findState_12 : decode prog_9_method_49_code 12 = .ok (.iconst 0, 1) := by decide +kernel
theorem d_Model_findState_13 : decode prog_9_method_49_code 13 = .ok (.istore_n 3, 1) := by decide +kernel
theorem d_Model_findState_14 : decode prog_9_method_49_code 14 = .ok (.iload_n 3, 1) := by decide +kernel
theorem d_Model_findState_15 : decode prog_9_method_49_code 15 = .ok (.bipush 91, 2) := by decide +kernel
theorem d_Model_findState_17 : decode prog_9_method_49_code 17 = .ok (.if_icmp .ge 39, 3) := by decide +kernel
theorem d_Model_findState_20 : decode prog_9_method_49_code 20 = .ok (.iload_n 2, 1) := by decide +kernel
theorem d_Model_findState_21 : decode prog_9_method_49_code 21 = .ok (.ifCond .eq 35, 3) := by decide +kernel
theorem d_Model_findState_24 : decode prog_9_method_49_code 24 = .ok (.aload_n 0, 1) := by decide +kernel
theorem d_Model_findState_25 : decode prog_9_method_49_code 25 = .ok (.getfield 46, 3) := by decide +kernel
theorem d_Model_findState_28 : decode prog_9_method_49_code 28 = .ok (.bipush 91, 2) := by decide +kernel
theorem d_Model_findState_30 : decode prog_9_method_49_code 30 = .ok (.iload_n 1, 1) := by decide +kernel
theorem d_Model_findState_31 : decode prog_9_method_49_code 31 = .ok (.imul, 1) := by decide +kernel
theorem d_Model_findState_32 : decode prog_9_method_49_code 32 = .ok (.iload_n 3, 1) := by decide +kernel
theorem d_Model_findState_33 : decode prog_9_method_49_code 33 = .ok (.iadd, 1) := by decide +kernel
theorem d_Model_findState_34 : decode prog_9_method_49_code 34 = .ok (.iaload, 1) := by decide +kernel
theorem d_Model_findState_35 : decode prog_9_method_49_code 35 = .ok (.aload_n 0, 1) := by decide +kernel
theorem d_Model_findState_36 : decode prog_9_method_49_code 36 = .ok (.getfield 22, 3) := by decide +kernel
theorem d_Model_findState_39 : decode prog_9_method_49_code 39 = .ok (.iload_n 3, 1) := by decide +kernel
theorem d_Model_findState_40 : decode prog_9_method_49_code 40 = .ok (.iaload, 1) := by decide +kernel
theorem d_Model_findState_41 : decode prog_9_method_49_code 41 = .ok (.if_icmp .ne 7, 3) := by decide +kernel
theorem d_Model_findState_44 : decode prog_9_method_49_code 44 = .ok (.iconst 1, 1) := by decide +kernel
theorem d_Model_findState_45 : decode prog_9_method_49_code 45 = .ok (.goto 4, 3) := by decide +kernel
theorem d_Model_findState_48 : decode prog_9_method_49_code 48 = .ok (.iconst 0, 1) := by decide +kernel
theorem d_Model_findState_49 : decode prog_9_method_49_code 49 = .ok (.istore_n 2, 1) := by decide +kernel
theorem d_Model_findState_50 : decode prog_9_method_49_code 50 = .ok (.iinc 3 1, 3) := by decide +kernel
theorem d_Model_findState_53 : decode prog_9_method_49_code 53 = .ok (.goto (-39), 3) := by decide +kernel
theorem d_Model_findState_56 : decode prog_9_method_49_code 56 = .ok (.iload_n 2, 1) := by decide +kernel
theorem d_Model_findState_57 : decode prog_9_method_49_code 57 = .ok (.ifCond .eq 5, 3) := by decide +kernel
theorem d_Model_findState_60 : decode prog_9_method_49_code 60 = .ok (.iload_n 1, 1) := by decide +kernel
theorem d_Model_findState_61 : decode prog_9_method_49_code 61 = .ok (.ireturn, 1) := by decide +kernel
theorem d_Model_findState_62 : decode prog_9_method_49_code 62 = .ok (.iinc 1 1, 3) := by decide +kernel
theorem d_Model_findState_65 : decode prog_9_method_49_code 65 = .ok (.goto (-63), 3) := by decide +kernel
theorem d_Model_findState_68 : decode prog_9_method_49_code 68 = .ok (.aload_n 0, 1) := by decide +kernel
theorem d_Model_findState_69 : decode prog_9_method_49_code 69 = .ok (.getfield 234, 3) := by decide +kernel
theorem d_Model_findState_72 : decode prog_9_method_49_code 72 = .ok (.ireturn, 1) := by decide +kernel
set_option maxHeartbeats 4000000 in
set_option maxRecDepth 100000 in
theorem r_Model_findState_14_b {p : Program} {l : Launch} {e : Env} {s : State} {m : MethodId} {args : Array Value} {below : List Frame} {meth : Method} {c : Code} {G : zG} {K : Nat} (X : zX p s m args meth c "AllHomeModel" prog_9_method_49_code 4 (some .int) G (zA G K)) {r : Int32} (a0 : Nat) (x1 : Int32) (h : zH) (k2 : (Int32) → Option Int32) (hk2 : ∀ (w : Int32), k2 w = some r → ∀ (H : Heap) (locs : List Loc) (ls : Array Slot), zI G K s (zA G K) H locs h → lv_has ls 4 [(0, .ref (G.1 a0)), (1, .int w)] → W p l e (zR 0) s m args below meth c H locs 0 0 (MQ below (zQi G K r h) args s 0 0 (zA G K)) (F0 m 2 ls [])) (k14 : (Int32 × Int32) → Option Int32) (hk14 : ∀ (w : Int32 × Int32), k14 w = some r → ∀ (H : Heap) (locs : List Loc) (ls : Array Slot), zI G K s (zA G K) H locs h → lv_has ls 4 [(0, .ref (G.1 a0)), (1, .int x1), (2, .int w.1), (3, .int w.2)] → W p l e (zR 0) s m args below meth c H locs 0 0 (MQ below (zQi G K r h) args s 0 0 (zA G K)) (F0 m 14 ls [])) (u : Int32 × Int32) (hm : g_Model_findState_14 a0 x1 h k2 k14 u = some r) {H : Heap} {locs : List Loc} {ls : Array Slot} (hI : zI G K s (zA G K) H locs h) (hl : lv_has ls 4 [(0, .ref (G.1 a0)), (1, .int x1), (2, .int u.1), (3, .int u.2)]) : W p l e (zR 0) s m args below meth c H locs 0 0 (MQ below (zQi G K r h) args s 0 0 (zA G K)) (F0 m 14 ls []) := by
  obtain ⟨hx, hb, hml, hown, hts, hr, hlocks, hK, hST, hNs⟩ := id X
  unfold g_Model_findState_14 at hm
  refine lv_iload_n hx hb d_Model_findState_14 rfl (lv_at hl 3 rfl) ?_
  refine lv_bipush (v := (nI 91)) hx hb d_Model_findState_15 (by decide) ?_
  refine lv_icmp_ge (tgt := 56) hx hb d_Model_findState_17 (by decide) (fun hc17 => ?_) (fun hc17 => ?_)
  · replace hm := zif_t hc17 hm
    refine lv_iload_n hx hb d_Model_findState_56 rfl (lv_at hl 2 rfl) ?_
    refine lv_if_eq (tgt := 62) hx hb d_Model_findState_57 (by decide) (fun hc57 => ?_) (fun hc57 => ?_)
    · replace hm := zif_t hc57 hm
      refine lv_iinc (v := (x1 + (nI 1))) (lv' := [(1, .int (x1 + (nI 1))), (0, .ref (G.1 a0)), (2, .int u.1), (3, .int u.2)]) hx hb d_Model_findState_62 hl (k := 1) rfl (congrArg (fun z => x1 + z) (show Int32.ofInt (1) = (nI 1) by decide)) (by decide) rfl (fun ls hl => ?_)
      refine lv_goto (tgt := 2) hx hb d_Model_findState_65 (by decide) ?_
      obtain ⟨g0, e0⟩ : ∃ z, z = (x1 + (nI 1)) := ⟨_, rfl⟩
      rw [← e0] at hm hl
      exact hk2 g0 hm _ _ _ hI (lv_sub hl [1, 0] rfl)
    · replace hm := zif_f hc57 hm
      refine lv_iload_n hx hb d_Model_findState_60 rfl (lv_at hl 1 rfl) ?_
      obtain rfl := zs1 hm
      exact z_iret X hI d_Model_findState_61
  · replace hm := zif_f hc17 hm
    refine lv_iload_n hx hb d_Model_findState_20 rfl (lv_at hl 2 rfl) ?_
    refine lv_if_eq (tgt := 56) hx hb d_Model_findState_21 (by decide) (fun hc21 => ?_) (fun hc21 => ?_)
    · replace hm := zif_t hc21 hm
      refine lv_iload_n hx hb d_Model_findState_56 rfl (lv_at hl 2 rfl) ?_
      refine lv_if_eq (tgt := 62) hx hb d_Model_findState_57 (by decide) (fun hc57 => ?_) (fun hc57 => ?_)
      · replace hm := zif_t hc57 hm
        refine lv_iinc (v := (x1 + (nI 1))) (lv' := [(1, .int (x1 + (nI 1))), (0, .ref (G.1 a0)), (2, .int u.1), (3, .int u.2)]) hx hb d_Model_findState_62 hl (k := 1) rfl (congrArg (fun z => x1 + z) (show Int32.ofInt (1) = (nI 1) by decide)) (by decide) rfl (fun ls hl => ?_)
        refine lv_goto (tgt := 2) hx hb d_Model_findState_65 (by decide) ?_
        obtain ⟨g0, e0⟩ : ∃ z, z = (x1 + (nI 1)) := ⟨_, rfl⟩
        rw [← e0] at hm hl
        exact hk2 g0 hm _ _ _ hI (lv_sub hl [1, 0] rfl)
      · replace hm := zif_f hc57 hm
        refine lv_iload_n hx hb d_Model_findState_60 rfl (lv_at hl 1 rfl) ?_
        obtain rfl := zs1 hm
        exact z_iret X hI d_Model_findState_61
    · replace hm := zif_f hc21 hm
      refine lv_aload_n hx hb d_Model_findState_24 rfl (lv_at hl 0 rfl) ?_
      obtain ⟨v25, hv, hm⟩ := zbd hm
      refine z_getR X hI F_Model_46 hv d_Model_findState_25 ?_
      refine lv_bipush (v := (nI 91)) hx hb d_Model_findState_28 (by decide) ?_
      refine lv_iload_n hx hb d_Model_findState_30 rfl (lv_at hl 1 rfl) ?_
      refine lv_imul hx hb d_Model_findState_31 ?_
      refine lv_iload_n hx hb d_Model_findState_32 rfl (lv_at hl 3 rfl) ?_
      refine lv_iadd hx hb d_Model_findState_33 ?_
      obtain ⟨v34, hv, hm⟩ := zbd hm
      refine z_iald X hI hv d_Model_findState_34 ?_
      refine lv_aload_n hx hb d_Model_findState_35 rfl (lv_at hl 0 rfl) ?_
      obtain ⟨v36, hv, hm⟩ := zbd hm
      refine z_getR X hI F_Model_22 hv d_Model_findState_36 ?_
      refine lv_iload_n hx hb d_Model_findState_39 rfl (lv_at hl 3 rfl) ?_
      obtain ⟨v40, hv, hm⟩ := zbd hm
      refine z_iald X hI hv d_Model_findState_40 ?_
      refine lv_icmp_ne (tgt := 48) hx hb d_Model_findState_41 (by decide) (fun hc41 => ?_) (fun hc41 => ?_)
      · replace hm := zif_f hc41 hm
        refine lv_iconst (v := (nI 0)) hx hb d_Model_findState_48 (by decide) ?_
        refine lv_istore_n (lv' := [(2, .int (nI 0)), (0, .ref (G.1 a0)), (1, .int x1), (3, .int u.2)]) hx hb d_Model_findState_49 rfl hl (by decide) rfl (fun ls hl => ?_)
        refine lv_iinc (v := (u.2 + (nI 1))) (lv' := [(3, .int (u.2 + (nI 1))), (2, .int (nI 0)), (0, .ref (G.1 a0)), (1, .int x1)]) hx hb d_Model_findState_50 hl (k := 3) rfl (congrArg (fun z => u.2 + z) (show Int32.ofInt (1) = (nI 1) by decide)) (by decide) rfl (fun ls hl => ?_)
        refine lv_goto (tgt := 14) hx hb d_Model_findState_53 (by decide) ?_
        obtain ⟨g1, e1⟩ : ∃ z, z = (u.2 + (nI 1)) := ⟨_, rfl⟩
        rw [← e1] at hm hl
        exact hk14 ((nI 0), g1) hm _ _ _ hI (lv_sub hl [2, 3, 1, 0] rfl)
      · replace hm := zif_t hc41 hm
        refine lv_iconst (v := (nI 1)) hx hb d_Model_findState_44 (by decide) ?_
        refine lv_goto (tgt := 49) hx hb d_Model_findState_45 (by decide) ?_
        refine lv_istore_n (lv' := [(2, .int (nI 1)), (0, .ref (G.1 a0)), (1, .int x1), (3, .int u.2)]) hx hb d_Model_findState_49 rfl hl (by decide) rfl (fun ls hl => ?_)
        refine lv_iinc (v := (u.2 + (nI 1))) (lv' := [(3, .int (u.2 + (nI 1))), (2, .int (nI 1)), (0, .ref (G.1 a0)), (1, .int x1)]) hx hb d_Model_findState_50 hl (k := 3) rfl (congrArg (fun z => u.2 + z) (show Int32.ofInt (1) = (nI 1) by decide)) (by decide) rfl (fun ls hl => ?_)
        refine lv_goto (tgt := 14) hx hb d_Model_findState_53 (by decide) ?_
        obtain ⟨g1, e1⟩ : ∃ z, z = (u.2 + (nI 1)) := ⟨_, rfl⟩
        rw [← e1] at hm hl
        exact hk14 ((nI 1), g1) hm _ _ _ hI (lv_sub hl [2, 3, 1, 0] rfl)
theorem r_Model_findState_14 {p : Program} {l : Launch} {e : Env} {s : State} {m : MethodId} {args : Array Value} {below : List Frame} {meth : Method} {c : Code} {G : zG} {K : Nat} (X : zX p s m args meth c "AllHomeModel" prog_9_method_49_code 4 (some .int) G (zA G K)) {r : Int32} (a0 : Nat) (x1 : Int32) (h : zH) (k2 : (Int32) → Option Int32) (hk2 : ∀ (w : Int32), k2 w = some r → ∀ (H : Heap) (locs : List Loc) (ls : Array Slot), zI G K s (zA G K) H locs h → lv_has ls 4 [(0, .ref (G.1 a0)), (1, .int w)] → W p l e (zR 0) s m args below meth c H locs 0 0 (MQ below (zQi G K r h) args s 0 0 (zA G K)) (F0 m 2 ls [])) : ∀ (n : Nat) (w : Int32 × Int32), zloop (g_Model_findState_14 a0 x1 h k2) n w = some r → ∀ (H : Heap) (locs : List Loc) (ls : Array Slot), zI G K s (zA G K) H locs h → lv_has ls 4 [(0, .ref (G.1 a0)), (1, .int x1), (2, .int w.1), (3, .int w.2)] → W p l e (zR 0) s m args below meth c H locs 0 0 (MQ below (zQi G K r h) args s 0 0 (zA G K)) (F0 m 14 ls []) := by
  intro n
  induction n with
  | zero => intro w hm; cases hm
  | succ n ih => intro w hm H locs ls hI hl; exact r_Model_findState_14_b X a0 x1 h k2 hk2 (zloop (g_Model_findState_14 a0 x1 h k2) n) ih w (zls hm) hI hl
set_option maxHeartbeats 4000000 in
set_option maxRecDepth 100000 in
theorem r_Model_findState_2_b {p : Program} {l : Launch} {e : Env} {s : State} {m : MethodId} {args : Array Value} {below : List Frame} {meth : Method} {c : Code} {G : zG} {K : Nat} (X : zX p s m args meth c "AllHomeModel" prog_9_method_49_code 4 (some .int) G (zA G K)) {r : Int32} (a0 : Nat) (h : zH) (k2 : (Int32) → Option Int32) (hk2 : ∀ (w : Int32), k2 w = some r → ∀ (H : Heap) (locs : List Loc) (ls : Array Slot), zI G K s (zA G K) H locs h → lv_has ls 4 [(0, .ref (G.1 a0)), (1, .int w)] → W p l e (zR 0) s m args below meth c H locs 0 0 (MQ below (zQi G K r h) args s 0 0 (zA G K)) (F0 m 2 ls [])) (u : Int32) (hm : g_Model_findState_2 a0 h k2 u = some r) {H : Heap} {locs : List Loc} {ls : Array Slot} (hI : zI G K s (zA G K) H locs h) (hl : lv_has ls 4 [(0, .ref (G.1 a0)), (1, .int u)]) : W p l e (zR 0) s m args below meth c H locs 0 0 (MQ below (zQi G K r h) args s 0 0 (zA G K)) (F0 m 2 ls []) := by
  obtain ⟨hx, hb, hml, hown, hts, hr, hlocks, hK, hST, hNs⟩ := id X
  unfold g_Model_findState_2 at hm
  refine lv_iload_n hx hb d_Model_findState_2 rfl (lv_at hl 1 rfl) ?_
  refine lv_aload_n hx hb d_Model_findState_3 rfl (lv_at hl 0 rfl) ?_
  obtain ⟨v4, hv, hm⟩ := zbd hm
  refine z_getI X hI F_Model_234 hv d_Model_findState_4 ?_
  refine lv_icmp_ge (tgt := 68) hx hb d_Model_findState_7 (by decide) (fun hc7 => ?_) (fun hc7 => ?_)
  · replace hm := zif_t hc7 hm
    refine lv_aload_n hx hb d_Model_findState_68 rfl (lv_at hl 0 rfl) ?_
    obtain ⟨v69, hv, hm⟩ := zbd hm
    refine z_getI X hI F_Model_234 hv d_Model_findState_69 ?_
    obtain rfl := zs1 hm
    exact z_iret X hI d_Model_findState_72
  · replace hm := zif_f hc7 hm
    refine lv_iconst (v := (nI 1)) hx hb d_Model_findState_10 (by decide) ?_
    refine lv_istore_n (lv' := [(2, .int (nI 1)), (0, .ref (G.1 a0)), (1, .int u)]) hx hb d_Model_findState_11 rfl hl (by decide) rfl (fun ls hl => ?_)
    refine lv_iconst (v := (nI 0)) hx hb d_Model_findState_12 (by decide) ?_
    refine lv_istore_n (lv' := [(3, .int (nI 0)), (2, .int (nI 1)), (0, .ref (G.1 a0)), (1, .int u)]) hx hb d_Model_findState_13 rfl hl (by decide) rfl (fun ls hl => ?_)
    exact r_Model_findState_14 X a0 u h k2 hk2 zN ((nI 1), (nI 0)) hm _ _ _ hI (lv_sub hl [2, 3, 1, 0] rfl)
theorem r_Model_findState_2 {p : Program} {l : Launch} {e : Env} {s : State} {m : MethodId} {args : Array Value} {below : List Frame} {meth : Method} {c : Code} {G : zG} {K : Nat} (X : zX p s m args meth c "AllHomeModel" prog_9_method_49_code 4 (some .int) G (zA G K)) {r : Int32} (a0 : Nat) (h : zH) : ∀ (n : Nat) (w : Int32), zloop (g_Model_findState_2 a0 h) n w = some r → ∀ (H : Heap) (locs : List Loc) (ls : Array Slot), zI G K s (zA G K) H locs h → lv_has ls 4 [(0, .ref (G.1 a0)), (1, .int w)] → W p l e (zR 0) s m args below meth c H locs 0 0 (MQ below (zQi G K r h) args s 0 0 (zA G K)) (F0 m 2 ls []) := by
  intro n
  induction n with
  | zero => intro w hm; cases hm
  | succ n ih => intro w hm H locs ls hI hl; exact r_Model_findState_2_b X a0 h (zloop (g_Model_findState_2 a0 h) n) ih w (zls hm) hI hl
set_option maxHeartbeats 4000000 in
set_option maxRecDepth 100000 in
theorem r_Model_findState_0 {p : Program} {l : Launch} {e : Env} {s : State} {m : MethodId} {args : Array Value} {below : List Frame} {meth : Method} {c : Code} {G : zG} {K : Nat} (X : zX p s m args meth c "AllHomeModel" prog_9_method_49_code 4 (some .int) G (zA G K)) {r : Int32} (a0 : Nat) (h : zH) (hm : m_Model_findState a0 h = some r) {H : Heap} {locs : List Loc} {ls : Array Slot} (hI : zI G K s (zA G K) H locs h) (hl : lv_has ls 4 [(0, .ref (G.1 a0))]) : W p l e (zR 0) s m args below meth c H locs 0 0 (MQ below (zQi G K r h) args s 0 0 (zA G K)) (F0 m 0 ls []) := by
  obtain ⟨hx, hb, hml, hown, hts, hr, hlocks, hK, hST, hNs⟩ := id X
  unfold m_Model_findState at hm
  refine lv_iconst (v := (nI 0)) hx hb d_Model_findState_0 (by decide) ?_
  refine lv_istore_n (lv' := [(1, .int (nI 0)), (0, .ref (G.1 a0))]) hx hb d_Model_findState_1 rfl hl (by decide) rfl (fun ls hl => ?_)
  exact r_Model_findState_2 X a0 h zN (nI 0) hm _ _ _ hI (lv_sub hl [1, 0] rfl)
set_option maxHeartbeats 4000000 in
set_option maxRecDepth 100000 in
theorem c_Model_findState (l : Launch) (G : zG) (K : Nat) (a0 : Nat) (h : zH) (r : Int32) (hm : m_Model_findState a0 h = some r) : zMi l G K y_Model_findState prog_9_method_49_code 4 0 [.ref (G.1 a0)] h r h := zMet (by decide +kernel) (Nat.le_of_ble_eq_true rfl) (fun p e s m below meth c ls X hI hl => r_Model_findState_0 X a0 h hm hI hl)
-- walk of AllHomeModel.keepState
theorem d_Model_keepState_0 : decode prog_9_method_50_code 0 = .ok (.iconst 0, 1) := by decide +kernel
theorem d_Model_keepState_1 : decode prog_9_method_50_code 1 = .ok (.istore_n 3, 1) := by decide +kernel
theorem d_Model_keepState_2 : decode prog_9_method_50_code 2 = .ok (.iload_n 3, 1) := by decide +kernel
theorem d_Model_keepState_3 : decode prog_9_method_50_code 3 = .ok (.bipush 91, 2) := by decide +kernel
theorem d_Model_keepState_5 : decode prog_9_method_50_code 5 = .ok (.if_icmp .ge 29, 3) := by decide +kernel
theorem d_Model_keepState_8 : decode prog_9_method_50_code 8 = .ok (.aload_n 0, 1) := by decide +kernel
theorem d_Model_keepState_9 : decode prog_9_method_50_code 9 = .ok (.getfield 46, 3) := by decide +kernel
theorem d_Model_keepState_12 : decode prog_9_method_50_code 12 = .ok (.bipush 91, 2) := by decide +kernel
theorem d_Model_keepState_14 : decode prog_9_method_50_code 14 = .ok (.aload_n 0, 1) := by decide +kernel
theorem d_Model_keepState_15 : decode prog_9_method_50_code 15 = .ok (.getfield 234, 3) := by decide +kernel
theorem d_Model_keepState_18 : decode prog_9_method_50_code 18 = .ok (.imul, 1) := by decide +kernel
theorem d_Model_keepState_19 : decode prog_9_method_50_code 19 = .ok (.iload_n 3, 1) := by decide +kernel
theorem d_Model_keepState_20 : decode prog_9_method_50_code 20 = .ok (.iadd, 1) := by decide +kernel
theorem d_Model_keepState_21 : decode prog_9_method_50_code 21 = .ok (.aload_n 0, 1) := by decide +kernel
theorem d_Model_keepState_22 : decode prog_9_method_50_code 22 = .ok (.getfield 22, 3) := by decide +kernel
theorem d_Model_keepState_25 : decode prog_9_method_50_code 25 = .ok (.iload_n 3, 1) := by decide +kernel
theorem d_Model_keepState_26 : decode prog_9_method_50_code 26 = .ok (.iaload, 1) := by decide +kernel
theorem d_Model_keepState_27 : decode prog_9_method_50_code 27 = .ok (.iastore, 1) := by decide +kernel
theorem d_Model_keepState_28 : decode prog_9_method_50_code 28 = .ok (.iinc 3 1, 3) := by decide +kernel
theorem d_Model_keepState_31 : decode prog_9_method_50_code 31 = .ok (.goto (-29), 3) := by decide +kernel
theorem d_Model_keepState_34 : decode prog_9_method_50_code 34 = .ok (.aload_n 0, 1) := by decide +kernel
theorem d_Model_keepState_35 : decode prog_9_method_50_code 35 = .ok (.getfield 49, 3) := by decide +kernel
theorem d_Model_keepState_38 : decode prog_9_method_50_code 38 = .ok (.aload_n 0, 1) := by decide +kernel
theorem d_Model_keepState_39 : decode prog_9_method_50_code 39 = .ok (.getfield 234, 3) := by decide +kernel
theorem d_Model_keepState_42 : decode prog_9_method_50_code 42 = .ok (.iload_n 1, 1) := by decide +kernel
theorem d_Model_keepState_43 : decode prog_9_method_50_code 43 = .ok (.iastore, 1) := by decide +kernel
theorem d_Model_keepState_44 : decode prog_9_method_50_code 44 = .ok (.aload_n 0, 1) := by decide +kernel
theorem d_Model_keepState_45 : decode prog_9_method_50_code 45 = .ok (.getfield 52, 3) := by decide +kernel
theorem d_Model_keepState_48 : decode prog_9_method_50_code 48 = .ok (.aload_n 0, 1) := by decide +kernel
theorem d_Model_keepState_49 : decode prog_9_method_50_code 49 = .ok (.getfield 234, 3) := by decide +kernel
theorem d_Model_keepState_52 : decode prog_9_method_50_code 52 = .ok (.iload_n 2, 1) := by decide +kernel
theorem d_Model_keepState_53 : decode prog_9_method_50_code 53 = .ok (.iastore, 1) := by decide +kernel
theorem d_Model_keepState_54 : decode prog_9_method_50_code 54 = .ok (.aload_n 0, 1) := by decide +kernel
theorem d_Model_keepState_55 : decode prog_9_method_50_code 55 = .ok (.dup, 1) := by decide +kernel
theorem d_Model_keepState_56 : decode prog_9_method_50_code 56 = .ok (.getfield 234, 3) := by decide +kernel
theorem d_Model_keepState_59 : decode prog_9_method_50_code 59 = .ok (.iconst 1, 1) := by decide +kernel
theorem d_Model_keepState_60 : decode prog_9_method_50_code 60 = .ok (.iadd, 1) := by decide +kernel
theorem d_Model_keepState_61 : decode prog_9_method_50_code 61 = .ok (.putfield 234, 3) := by decide +kernel
theorem d_Model_keepState_64 : decode prog_9_method_50_code 64 = .ok (.return_, 1) := by decide +kernel
set_option maxHeartbeats 4000000 in
set_option maxRecDepth 100000 in
theorem r_Model_keepState_2_b {p : Program} {l : Launch} {e : Env} {s : State} {m : MethodId} {args : Array Value} {below : List Frame} {meth : Method} {c : Code} {G : zG} {K : Nat} (X : zX p s m args meth c "AllHomeModel" prog_9_method_50_code 4 none G (zA G K)) {h' : zH} (a0 : Nat) (x1 : Int32) (x2 : Int32) (k2 : (Int32 × zH) → Option zH) (hk2 : ∀ (w : Int32 × zH), k2 w = some h' → ∀ (H : Heap) (locs : List Loc) (ls : Array Slot), zI G K s (zA G K) H locs w.2 → lv_has ls 4 [(0, .ref (G.1 a0)), (1, .int x1), (2, .int x2), (3, .int w.1)] → W p l e (zR 0) s m args below meth c H locs 0 0 (MQ below (zQv G K h') args s 0 0 (zA G K)) (F0 m 2 ls [])) (u : Int32 × zH) (hm : g_Model_keepState_2 a0 x1 x2 k2 u = some h') {H : Heap} {locs : List Loc} {ls : Array Slot} (hI : zI G K s (zA G K) H locs u.2) (hl : lv_has ls 4 [(0, .ref (G.1 a0)), (1, .int x1), (2, .int x2), (3, .int u.1)]) : W p l e (zR 0) s m args below meth c H locs 0 0 (MQ below (zQv G K h') args s 0 0 (zA G K)) (F0 m 2 ls []) := by
  obtain ⟨hx, hb, hml, hown, hts, hr, hlocks, hK, hST, hNs⟩ := id X
  unfold g_Model_keepState_2 at hm
  refine lv_iload_n hx hb d_Model_keepState_2 rfl (lv_at hl 3 rfl) ?_
  refine lv_bipush (v := (nI 91)) hx hb d_Model_keepState_3 (by decide) ?_
  refine lv_icmp_ge (tgt := 34) hx hb d_Model_keepState_5 (by decide) (fun hc5 => ?_) (fun hc5 => ?_)
  · replace hm := zif_t hc5 hm
    refine lv_aload_n hx hb d_Model_keepState_34 rfl (lv_at hl 0 rfl) ?_
    obtain ⟨v35, hv, hm⟩ := zbd hm
    refine z_getR X hI F_Model_49 hv d_Model_keepState_35 ?_
    refine lv_aload_n hx hb d_Model_keepState_38 rfl (lv_at hl 0 rfl) ?_
    obtain ⟨v39, hv, hm⟩ := zbd hm
    refine z_getI X hI F_Model_234 hv d_Model_keepState_39 ?_
    refine lv_iload_n hx hb d_Model_keepState_42 rfl (lv_at hl 1 rfl) ?_
    obtain ⟨h43, hv, hm⟩ := zbd hm
    refine z_iast X hI hv d_Model_keepState_43 (fun H locs hI => ?_)
    refine lv_aload_n hx hb d_Model_keepState_44 rfl (lv_at hl 0 rfl) ?_
    obtain ⟨v45, hv, hm⟩ := zbd hm
    refine z_getR X hI F_Model_52 hv d_Model_keepState_45 ?_
    refine lv_aload_n hx hb d_Model_keepState_48 rfl (lv_at hl 0 rfl) ?_
    obtain ⟨v49, hv, hm⟩ := zbd hm
    refine z_getI X hI F_Model_234 hv d_Model_keepState_49 ?_
    refine lv_iload_n hx hb d_Model_keepState_52 rfl (lv_at hl 2 rfl) ?_
    obtain ⟨h53, hv, hm⟩ := zbd hm
    refine z_iast X hI hv d_Model_keepState_53 (fun H locs hI => ?_)
    refine lv_aload_n hx hb d_Model_keepState_54 rfl (lv_at hl 0 rfl) ?_
    refine lv_dup hx hb d_Model_keepState_55 rfl ?_
    obtain ⟨v56, hv, hm⟩ := zbd hm
    refine z_getI X hI F_Model_234 hv d_Model_keepState_56 ?_
    refine lv_iconst (v := (nI 1)) hx hb d_Model_keepState_59 (by decide) ?_
    refine lv_iadd hx hb d_Model_keepState_60 ?_
    obtain ⟨h61, hv, hm⟩ := zbd hm
    refine z_putI X hI P_Model_234 hv d_Model_keepState_61 (fun H locs hI => ?_)
    obtain rfl := zs1 hm
    exact z_vret X hI d_Model_keepState_64
  · replace hm := zif_f hc5 hm
    refine lv_aload_n hx hb d_Model_keepState_8 rfl (lv_at hl 0 rfl) ?_
    obtain ⟨v9, hv, hm⟩ := zbd hm
    refine z_getR X hI F_Model_46 hv d_Model_keepState_9 ?_
    refine lv_bipush (v := (nI 91)) hx hb d_Model_keepState_12 (by decide) ?_
    refine lv_aload_n hx hb d_Model_keepState_14 rfl (lv_at hl 0 rfl) ?_
    obtain ⟨v15, hv, hm⟩ := zbd hm
    refine z_getI X hI F_Model_234 hv d_Model_keepState_15 ?_
    refine lv_imul hx hb d_Model_keepState_18 ?_
    refine lv_iload_n hx hb d_Model_keepState_19 rfl (lv_at hl 3 rfl) ?_
    refine lv_iadd hx hb d_Model_keepState_20 ?_
    refine lv_aload_n hx hb d_Model_keepState_21 rfl (lv_at hl 0 rfl) ?_
    obtain ⟨v22, hv, hm⟩ := zbd hm
    refine z_getR X hI F_Model_22 hv d_Model_keepState_22 ?_
    refine lv_iload_n hx hb d_Model_keepState_25 rfl (lv_at hl 3 rfl) ?_
    obtain ⟨v26, hv, hm⟩ := zbd hm
    refine z_iald X hI hv d_Model_keepState_26 ?_
    obtain ⟨h27, hv, hm⟩ := zbd hm
    refine z_iast X hI hv d_Model_keepState_27 (fun H locs hI => ?_)
    refine lv_iinc (v := (u.1 + (nI 1))) (lv' := [(3, .int (u.1 + (nI 1))), (0, .ref (G.1 a0)), (1, .int x1), (2, .int x2)]) hx hb d_Model_keepState_28 hl (k := 3) rfl (congrArg (fun z => u.1 + z) (show Int32.ofInt (1) = (nI 1) by decide)) (by decide) rfl (fun ls hl => ?_)
    refine lv_goto (tgt := 2) hx hb d_Model_keepState_31 (by decide) ?_
    obtain ⟨g0, e0⟩ : ∃ z, z = (u.1 + (nI 1)) := ⟨_, rfl⟩
    rw [← e0] at hm hl
    exact hk2 (g0, h27) hm _ _ _ hI (lv_sub hl [1, 2, 3, 0] rfl)
theorem r_Model_keepState_2 {p : Program} {l : Launch} {e : Env} {s : State} {m : MethodId} {args : Array Value} {below : List Frame} {meth : Method} {c : Code} {G : zG} {K : Nat} (X : zX p s m args meth c "AllHomeModel" prog_9_method_50_code 4 none G (zA G K)) {h' : zH} (a0 : Nat) (x1 : Int32) (x2 : Int32) : ∀ (n : Nat) (w : Int32 × zH), zloop (g_Model_keepState_2 a0 x1 x2) n w = some h' → ∀ (H : Heap) (locs : List Loc) (ls : Array Slot), zI G K s (zA G K) H locs w.2 → lv_has ls 4 [(0, .ref (G.1 a0)), (1, .int x1), (2, .int x2), (3, .int w.1)] → W p l e (zR 0) s m args below meth c H locs 0 0 (MQ below (zQv G K h') args s 0 0 (zA G K)) (F0 m 2 ls []) := by
  intro n
  induction n with
  | zero => intro w hm; cases hm
  | succ n ih => intro w hm H locs ls hI hl; exact r_Model_keepState_2_b X a0 x1 x2 (zloop (g_Model_keepState_2 a0 x1 x2) n) ih w (zls hm) hI hl
set_option maxHeartbeats 4000000 in
set_option maxRecDepth 100000 in
theorem r_Model_keepState_0 {p : Program} {l : Launch} {e : Env} {s : State} {m : MethodId} {args : Array Value} {below : List Frame} {meth : Method} {c : Code} {G : zG} {K : Nat} (X : zX p s m args meth c "AllHomeModel" prog_9_method_50_code 4 none G (zA G K)) {h' : zH} (a0 : Nat) (x1 : Int32) (x2 : Int32) (h : zH) (hm : m_Model_keepState a0 x1 x2 h = some h') {H : Heap} {locs : List Loc} {ls : Array Slot} (hI : zI G K s (zA G K) H locs h) (hl : lv_has ls 4 [(0, .ref (G.1 a0)), (1, .int x1), (2, .int x2)]) : W p l e (zR 0) s m args below meth c H locs 0 0 (MQ below (zQv G K h') args s 0 0 (zA G K)) (F0 m 0 ls []) := by
  obtain ⟨hx, hb, hml, hown, hts, hr, hlocks, hK, hST, hNs⟩ := id X
  unfold m_Model_keepState at hm
  refine lv_iconst (v := (nI 0)) hx hb d_Model_keepState_0 (by decide) ?_
  refine lv_istore_n (lv' := [(3, .int (nI 0)), (0, .ref (G.1 a0)), (1, .int x1), (2, .int x2)]) hx hb d_Model_keepState_1 rfl hl (by decide) rfl (fun ls hl => ?_)
  exact r_Model_keepState_2 X a0 x1 x2 zN ((nI 0), h) hm _ _ _ hI (lv_sub hl [1, 2, 3, 0] rfl)
set_option maxHeartbeats 4000000 in
set_option maxRecDepth 100000 in
theorem c_Model_keepState (l : Launch) (G : zG) (K : Nat) (a0 : Nat) (x1 : Int32) (x2 : Int32) (h : zH) (h' : zH) (hm : m_Model_keepState a0 x1 x2 h = some h') : zMv l G K y_Model_keepState prog_9_method_50_code 4 0 [.ref (G.1 a0), .int x1, .int x2] h h' := zMet (by decide +kernel) (Nat.le_of_ble_eq_true rfl) (fun p e s m below meth c ls X hI hl => r_Model_keepState_0 X a0 x1 x2 h hm hI hl)
-- walk of AllHomeModel.goFrom
theorem d_Model_goFrom_0 : decode prog_9_method_51_code 0 = .ok (.iconst 0, 1) := by decide +kernel
theorem d_Model_goFrom_1 : decode prog_9_method_51_code 1 = .ok (.istore_n 2, 1) := by decide +kernel
theorem d_Model_goFrom_2 : decode prog_9_method_51_code 2 = .ok (.iload_n 2, 1) := by decide +kernel
theorem d_Model_goFrom_3 : decode prog_9_method_51_code 3 = .ok (.sipush 400, 3) := by decide +kernel
theorem d_Model_goFrom_6 : decode prog_9_method_51_code 6 = .ok (.if_icmp .ge 80, 3) := by decide +kernel
theorem d_Model_goFrom_9 : decode prog_9_method_51_code 9 = .ok (.aload_n 0, 1) := by decide +kernel
theorem d_Model_goFrom_10 : decode prog_9_method_51_code 10 = .ok (.getfield 234, 3) := by decide +kernel
theorem d_Model_goFrom_13 : decode prog_9_method_51_code 13 = .ok (.sipush 151, 3) := by decide +kernel
theorem d_Model_goFrom_16 : decode prog_9_method_51_code 16 = .ok (.if_icmp .ge 70, 3) := by decide +kernel
theorem d_Model_goFrom_19 : decode prog_9_method_51_code 19 = .ok (.iload_n 2, 1) := by decide +kernel
theorem d_Model_goFrom_20 : decode prog_9_method_51_code 20 = .ok (.bipush 100, 2) := by decide +kernel
theorem d_Model_goFrom_22 : decode prog_9_method_51_code 22 = .ok (.irem, 1) := by decide +kernel
theorem d_Model_goFrom_23 : decode prog_9_method_51_code 23 = .ok (.bipush 8, 2) := by decide +kernel
theorem d_Model_goFrom_25 : decode prog_9_method_51_code 25 = .ok (.if_icmp .ge 55, 3) := by decide +kernel
theorem d_Model_goFrom_28 : decode prog_9_method_51_code 28 = .ok (.aload_n 0, 1) := by decide +kernel
theorem d_Model_goFrom_29 : decode prog_9_method_51_code 29 = .ok (.iload_n 1, 1) := by decide +kernel
theorem d_Model_goFrom_30 : decode prog_9_method_51_code 30 = .ok (.invokevirtual 237, 3) := by decide +kernel
theorem d_Model_goFrom_33 : decode prog_9_method_51_code 33 = .ok (.aload_n 0, 1) := by decide +kernel
theorem d_Model_goFrom_34 : decode prog_9_method_51_code 34 = .ok (.iload_n 2, 1) := by decide +kernel
theorem d_Model_goFrom_35 : decode prog_9_method_51_code 35 = .ok (.bipush 100, 2) := by decide +kernel
theorem d_Model_goFrom_37 : decode prog_9_method_51_code 37 = .ok (.idiv, 1) := by decide +kernel
theorem d_Model_goFrom_38 : decode prog_9_method_51_code 38 = .ok (.iload_n 2, 1) := by decide +kernel
theorem d_Model_goFrom_39 : decode prog_9_method_51_code 39 = .ok (.bipush 100, 2) := by decide +kernel
theorem d_Model_goFrom_41 : decode prog_9_method_51_code 41 = .ok (.irem, 1) := by decide +kernel
theorem d_Model_goFrom_42 : decode prog_9_method_51_code 42 = .ok (.invokevirtual 213, 3) := by decide +kernel
theorem d_Model_goFrom_45 : decode prog_9_method_51_code 45 = .ok (.ifCond .le 35, 3) := by decide +kernel
theorem d_Model_goFrom_48 : decode prog_9_method_51_code 48 = .ok (.aload_n 0, 1) := by decide +kernel
theorem d_Model_goFrom_49 : decode prog_9_method_51_code 49 = .ok (.invokevirtual 240, 3) := by decide +kernel
theorem d_Model_goFrom_52 : decode prog_9_method_51_code 52 = .ok (.istore_n 3, 1) := by decide +kernel
theorem d_Model_goFrom_53 : decode prog_9_method_51_code 53 = .ok (.iload_n 3, 1) := by decide +kernel
theorem d_Model_goFrom_54 : decode prog_9_method_51_code 54 = .ok (.aload_n 0, 1) := by decide +kernel
theorem d_Model_goFrom_55 : decode prog_9_method_51_code 55 = .ok (.getfield 234, 3) := by decide +kernel
theorem d_Model_goFrom_58 : decode prog_9_method_51_code 58 = .ok (.if_icmp .ne 9, 3) := by decide +kernel
theorem d_Model_goFrom_61 : decode prog_9_method_51_code 61 = .ok (.aload_n 0, 1) := by decide +kernel
theorem d_Model_goFrom_62 : decode prog_9_method_51_code 62 = .ok (.iload_n 1, 1) := by decide +kernel
theorem d_Model_goFrom_63 : decode prog_9_method_51_code 63 = .ok (.iload_n 2, 1) := by decide +kernel
theorem d_Model_goFrom_64 : decode prog_9_method_51_code 64 = .ok (.invokevirtual 243, 3) := by decide +kernel
theorem d_Model_goFrom_67 : decode prog_9_method_51_code 67 = .ok (.aload_n 0, 1) := by decide +kernel
theorem d_Model_goFrom_68 : decode prog_9_method_51_code 68 = .ok (.getfield 59, 3) := by decide +kernel
theorem d_Model_goFrom_71 : decode prog_9_method_51_code 71 = .ok (.sipush 151, 3) := by decide +kernel
theorem d_Model_goFrom_74 : decode prog_9_method_51_code 74 = .ok (.iload_n 1, 1) := by decide +kernel
theorem d_Model_goFrom_75 : decode prog_9_method_51_code 75 = .ok (.imul, 1) := by decide +kernel
theorem d_Model_goFrom_76 : decode prog_9_method_51_code 76 = .ok (.iload_n 3, 1) := by decide +kernel
theorem d_Model_goFrom_77 : decode prog_9_method_51_code 77 = .ok (.iadd, 1) := by decide +kernel
theorem d_Model_goFrom_78 : decode prog_9_method_51_code 78 = .ok (.iconst 1, 1) := by decide +kernel
theorem d_Model_goFrom_79 : decode prog_9_method_51_code 79 = .ok (.bastore, 1) := by decide +kernel
theorem d_Model_goFrom_80 : decode prog_9_method_51_code 80 = .ok (.iinc 2 1, 3) := by decide +kernel
theorem d_Model_goFrom_83 : decode prog_9_method_51_code 83 = .ok (.goto (-81), 3) := by decide +kernel
theorem d_Model_goFrom_86 : decode prog_9_method_51_code 86 = .ok (.return_, 1) := by decide +kernel
set_option maxHeartbeats 4000000 in
set_option maxRecDepth 100000 in
theorem r_Model_goFrom_67 {p : Program} {l : Launch} {e : Env} {s : State} {m : MethodId} {args : Array Value} {below : List Frame} {meth : Method} {c : Code} {G : zG} {K : Nat} (X : zX p s m args meth c "AllHomeModel" prog_9_method_51_code 4 none G (zA G K)) {h' : zH} (a0 : Nat) (x1 : Int32) (x2 : Int32) (x3 : Int32) (h : zH) (k2 : (Int32 × zH) → Option zH) (hk2 : ∀ (w : Int32 × zH), k2 w = some h' → ∀ (H : Heap) (locs : List Loc) (ls : Array Slot), zI G K s (zA G K) H locs w.2 → lv_has ls 4 [(0, .ref (G.1 a0)), (1, .int x1), (2, .int w.1)] → W p l e (zR 5) s m args below meth c H locs 0 0 (MQ below (zQv G K h') args s 0 0 (zA G K)) (F0 m 2 ls [])) (hm : g_Model_goFrom_67 a0 x1 x2 x3 h k2 = some h') {H : Heap} {locs : List Loc} {ls : Array Slot} (hI : zI G K s (zA G K) H locs h) (hl : lv_has ls 4 [(0, .ref (G.1 a0)), (1, .int x1), (2, .int x2), (3, .int x3)]) : W p l e (zR 5) s m args below meth c H locs 0 0 (MQ below (zQv G K h') args s 0 0 (zA G K)) (F0 m 67 ls []) := by
  obtain ⟨hx, hb, hml, hown, hts, hr, hlocks, hK, hST, hNs⟩ := id X
  unfold g_Model_goFrom_67 at hm
  refine lv_aload_n hx hb d_Model_goFrom_67 rfl (lv_at hl 0 rfl) ?_
  obtain ⟨v68, hv, hm⟩ := zbd hm
  refine z_getR X hI F_Model_59 hv d_Model_goFrom_68 ?_
  refine lv_sipush (v := (nI 151)) hx hb d_Model_goFrom_71 (by decide) ?_
  refine lv_iload_n hx hb d_Model_goFrom_74 rfl (lv_at hl 1 rfl) ?_
  refine lv_imul hx hb d_Model_goFrom_75 ?_
  refine lv_iload_n hx hb d_Model_goFrom_76 rfl (lv_at hl 3 rfl) ?_
  refine lv_iadd hx hb d_Model_goFrom_77 ?_
  refine lv_iconst (v := (nI 1)) hx hb d_Model_goFrom_78 (by decide) ?_
  obtain ⟨h79, hv, hm⟩ := zbd hm
  refine z_zast X hI hv d_Model_goFrom_79 (fun H locs hI => ?_)
  refine lv_iinc (v := (x2 + (nI 1))) (lv' := [(2, .int (x2 + (nI 1))), (0, .ref (G.1 a0)), (1, .int x1), (3, .int x3)]) hx hb d_Model_goFrom_80 hl (k := 2) rfl (congrArg (fun z => x2 + z) (show Int32.ofInt (1) = (nI 1) by decide)) (by decide) rfl (fun ls hl => ?_)
  refine lv_goto (tgt := 2) hx hb d_Model_goFrom_83 (by decide) ?_
  obtain ⟨g0, e0⟩ : ∃ z, z = (x2 + (nI 1)) := ⟨_, rfl⟩
  rw [← e0] at hm hl
  exact hk2 (g0, h79) hm _ _ _ hI (lv_sub hl [1, 2, 0] rfl)
set_option maxHeartbeats 4000000 in
set_option maxRecDepth 100000 in
theorem r_Model_goFrom_2_b {p : Program} {l : Launch} {e : Env} {s : State} {m : MethodId} {args : Array Value} {below : List Frame} {meth : Method} {c : Code} {G : zG} {K : Nat} (X : zX p s m args meth c "AllHomeModel" prog_9_method_51_code 4 none G (zA G K)) {h' : zH} (a0 : Nat) (x1 : Int32) (k2 : (Int32 × zH) → Option zH) (hk2 : ∀ (w : Int32 × zH), k2 w = some h' → ∀ (H : Heap) (locs : List Loc) (ls : Array Slot), zI G K s (zA G K) H locs w.2 → lv_has ls 4 [(0, .ref (G.1 a0)), (1, .int x1), (2, .int w.1)] → W p l e (zR 5) s m args below meth c H locs 0 0 (MQ below (zQv G K h') args s 0 0 (zA G K)) (F0 m 2 ls [])) (u : Int32 × zH) (hm : g_Model_goFrom_2 a0 x1 k2 u = some h') {H : Heap} {locs : List Loc} {ls : Array Slot} (hI : zI G K s (zA G K) H locs u.2) (hl : lv_has ls 4 [(0, .ref (G.1 a0)), (1, .int x1), (2, .int u.1)]) : W p l e (zR 5) s m args below meth c H locs 0 0 (MQ below (zQv G K h') args s 0 0 (zA G K)) (F0 m 2 ls []) := by
  obtain ⟨hx, hb, hml, hown, hts, hr, hlocks, hK, hST, hNs⟩ := id X
  unfold g_Model_goFrom_2 at hm
  refine lv_iload_n hx hb d_Model_goFrom_2 rfl (lv_at hl 2 rfl) ?_
  refine lv_sipush (v := (nI 400)) hx hb d_Model_goFrom_3 (by decide) ?_
  refine lv_icmp_ge (tgt := 86) hx hb d_Model_goFrom_6 (by decide) (fun hc6 => ?_) (fun hc6 => ?_)
  · replace hm := zif_t hc6 hm
    obtain rfl := zs1 hm
    exact z_vret X hI d_Model_goFrom_86
  · replace hm := zif_f hc6 hm
    refine lv_aload_n hx hb d_Model_goFrom_9 rfl (lv_at hl 0 rfl) ?_
    obtain ⟨v10, hv, hm⟩ := zbd hm
    refine z_getI X hI F_Model_234 hv d_Model_goFrom_10 ?_
    refine lv_sipush (v := (nI 151)) hx hb d_Model_goFrom_13 (by decide) ?_
    refine lv_icmp_ge (tgt := 86) hx hb d_Model_goFrom_16 (by decide) (fun hc16 => ?_) (fun hc16 => ?_)
    · replace hm := zif_t hc16 hm
      obtain rfl := zs1 hm
      exact z_vret X hI d_Model_goFrom_86
    · replace hm := zif_f hc16 hm
      refine lv_iload_n hx hb d_Model_goFrom_19 rfl (lv_at hl 2 rfl) ?_
      refine lv_bipush (v := (nI 100)) hx hb d_Model_goFrom_20 (by decide) ?_
      refine lv_irem hx hb d_Model_goFrom_22 (by decide) ?_
      refine lv_bipush (v := (nI 8)) hx hb d_Model_goFrom_23 (by decide) ?_
      refine lv_icmp_ge (tgt := 80) hx hb d_Model_goFrom_25 (by decide) (fun hc25 => ?_) (fun hc25 => ?_)
      · replace hm := zif_t hc25 hm
        refine lv_iinc (v := (u.1 + (nI 1))) (lv' := [(2, .int (u.1 + (nI 1))), (0, .ref (G.1 a0)), (1, .int x1)]) hx hb d_Model_goFrom_80 hl (k := 2) rfl (congrArg (fun z => u.1 + z) (show Int32.ofInt (1) = (nI 1) by decide)) (by decide) rfl (fun ls hl => ?_)
        refine lv_goto (tgt := 2) hx hb d_Model_goFrom_83 (by decide) ?_
        obtain ⟨g0, e0⟩ : ∃ z, z = (u.1 + (nI 1)) := ⟨_, rfl⟩
        rw [← e0] at hm hl
        obtain ⟨g1, e1⟩ : ∃ z, z = u.2 := ⟨_, rfl⟩
        rw [← e1] at hm hI
        exact hk2 (g0, g1) hm _ _ _ hI (lv_sub hl [1, 2, 0] rfl)
      · replace hm := zif_f hc25 hm
        refine lv_aload_n hx hb d_Model_goFrom_28 rfl (lv_at hl 0 rfl) ?_
        refine lv_iload_n hx hb d_Model_goFrom_29 rfl (lv_at hl 1 rfl) ?_
        obtain ⟨h30, hv, hm⟩ := zbd hm
        obtain ⟨hq, hv⟩ := zcv_at hv
        refine z_cv hI (z_runV (As := [.int x1]) (rest := []) X hI hl.1 (c_Model_bringBack l G K a0 x1 u.2 _ hv) C_Model_237 rfl hq (Nat.le_of_ble_eq_true rfl) ⟨Nat.le_of_ble_eq_true rfl, Nat.le_of_ble_eq_true rfl, Nat.zero_le _, Nat.zero_le _⟩ rfl d_Model_goFrom_30) (fun H locs hI => ?_)
        refine lv_aload_n hx hb d_Model_goFrom_33 rfl (lv_at hl 0 rfl) ?_
        refine lv_iload_n hx hb d_Model_goFrom_34 rfl (lv_at hl 2 rfl) ?_
        refine lv_bipush (v := (nI 100)) hx hb d_Model_goFrom_35 (by decide) ?_
        refine lv_idiv hx hb d_Model_goFrom_37 (by decide) ?_
        refine lv_iload_n hx hb d_Model_goFrom_38 rfl (lv_at hl 2 rfl) ?_
        refine lv_bipush (v := (nI 100)) hx hb d_Model_goFrom_39 (by decide) ?_
        refine lv_irem hx hb d_Model_goFrom_41 (by decide) ?_
        obtain ⟨v42, h42, hv, hm⟩ := zb2_at hm
        obtain ⟨hq, hv⟩ := zcv_at hv
        refine z_ci hI (z_runV (As := [.int (u.1 / (nI 100)), .int (u.1 - u.1 / (nI 100) * (nI 100))]) (rest := []) X hI hl.1 (c_Model_doStep l G K a0 (u.1 / (nI 100)) (u.1 - u.1 / (nI 100) * (nI 100)) h30 _ _ hv) C_Model_213 rfl hq (Nat.le_of_ble_eq_true rfl) ⟨Nat.le_of_ble_eq_true rfl, Nat.le_of_ble_eq_true rfl, Nat.zero_le _, Nat.zero_le _⟩ rfl d_Model_goFrom_42) (fun H locs hI => ?_)
        refine lv_if_le (tgt := 80) hx hb d_Model_goFrom_45 (by decide) (fun hc45 => ?_) (fun hc45 => ?_)
        · replace hm := zif_t hc45 hm
          refine lv_iinc (v := (u.1 + (nI 1))) (lv' := [(2, .int (u.1 + (nI 1))), (0, .ref (G.1 a0)), (1, .int x1)]) hx hb d_Model_goFrom_80 hl (k := 2) rfl (congrArg (fun z => u.1 + z) (show Int32.ofInt (1) = (nI 1) by decide)) (by decide) rfl (fun ls hl => ?_)
          refine lv_goto (tgt := 2) hx hb d_Model_goFrom_83 (by decide) ?_
          obtain ⟨g0, e0⟩ : ∃ z, z = (u.1 + (nI 1)) := ⟨_, rfl⟩
          rw [← e0] at hm hl
          exact hk2 (g0, h42) hm _ _ _ hI (lv_sub hl [1, 2, 0] rfl)
        · replace hm := zif_f hc45 hm
          refine lv_aload_n hx hb d_Model_goFrom_48 rfl (lv_at hl 0 rfl) ?_
          obtain ⟨v49, hv, hm⟩ := zbd hm
          obtain ⟨hq, hv⟩ := zcv_at hv
          refine z_ci hI (z_runV (As := []) (rest := []) X hI hl.1 (c_Model_findState l G K a0 h42 _ hv) C_Model_240 rfl hq (Nat.le_of_ble_eq_true rfl) ⟨Nat.le_of_ble_eq_true rfl, Nat.le_of_ble_eq_true rfl, Nat.zero_le _, Nat.zero_le _⟩ rfl d_Model_goFrom_49) (fun H locs hI => ?_)
          refine lv_istore_n (lv' := [(3, .int v49), (0, .ref (G.1 a0)), (1, .int x1), (2, .int u.1)]) hx hb d_Model_goFrom_52 rfl hl (by decide) rfl (fun ls hl => ?_)
          refine lv_iload_n hx hb d_Model_goFrom_53 rfl (lv_at hl 0 rfl) ?_
          refine lv_aload_n hx hb d_Model_goFrom_54 rfl (lv_at hl 1 rfl) ?_
          obtain ⟨v55, hv, hm⟩ := zbd hm
          refine z_getI X hI F_Model_234 hv d_Model_goFrom_55 ?_
          refine lv_icmp_ne (tgt := 67) hx hb d_Model_goFrom_58 (by decide) (fun hc58 => ?_) (fun hc58 => ?_)
          · replace hm := zif_f hc58 hm
            exact r_Model_goFrom_67 X a0 x1 u.1 v49 h42 k2 hk2 hm hI (lv_sub hl [1, 2, 3, 0] rfl)
          · replace hm := zif_t hc58 hm
            refine lv_aload_n hx hb d_Model_goFrom_61 rfl (lv_at hl 1 rfl) ?_
            refine lv_iload_n hx hb d_Model_goFrom_62 rfl (lv_at hl 2 rfl) ?_
            refine lv_iload_n hx hb d_Model_goFrom_63 rfl (lv_at hl 3 rfl) ?_
            obtain ⟨h64, hv, hm⟩ := zbd hm
            obtain ⟨hq, hv⟩ := zcv_at hv
            refine z_cv hI (z_runV (As := [.int x1, .int u.1]) (rest := []) X hI hl.1 (c_Model_keepState l G K a0 x1 u.1 h42 _ hv) C_Model_243 rfl hq (Nat.le_of_ble_eq_true rfl) ⟨Nat.le_of_ble_eq_true rfl, Nat.le_of_ble_eq_true rfl, Nat.zero_le _, Nat.zero_le _⟩ rfl d_Model_goFrom_64) (fun H locs hI => ?_)
            exact r_Model_goFrom_67 X a0 x1 u.1 v49 h64 k2 hk2 hm hI (lv_sub hl [1, 2, 3, 0] rfl)
theorem r_Model_goFrom_2 {p : Program} {l : Launch} {e : Env} {s : State} {m : MethodId} {args : Array Value} {below : List Frame} {meth : Method} {c : Code} {G : zG} {K : Nat} (X : zX p s m args meth c "AllHomeModel" prog_9_method_51_code 4 none G (zA G K)) {h' : zH} (a0 : Nat) (x1 : Int32) : ∀ (n : Nat) (w : Int32 × zH), zloop (g_Model_goFrom_2 a0 x1) n w = some h' → ∀ (H : Heap) (locs : List Loc) (ls : Array Slot), zI G K s (zA G K) H locs w.2 → lv_has ls 4 [(0, .ref (G.1 a0)), (1, .int x1), (2, .int w.1)] → W p l e (zR 5) s m args below meth c H locs 0 0 (MQ below (zQv G K h') args s 0 0 (zA G K)) (F0 m 2 ls []) := by
  intro n
  induction n with
  | zero => intro w hm; cases hm
  | succ n ih => intro w hm H locs ls hI hl; exact r_Model_goFrom_2_b X a0 x1 (zloop (g_Model_goFrom_2 a0 x1) n) ih w (zls hm) hI hl
set_option maxHeartbeats 4000000 in
set_option maxRecDepth 100000 in
theorem r_Model_goFrom_0 {p : Program} {l : Launch} {e : Env} {s : State} {m : MethodId} {args : Array Value} {below : List Frame} {meth : Method} {c : Code} {G : zG} {K : Nat} (X : zX p s m args meth c "AllHomeModel" prog_9_method_51_code 4 none G (zA G K)) {h' : zH} (a0 : Nat) (x1 : Int32) (h : zH) (hm : m_Model_goFrom a0 x1 h = some h') {H : Heap} {locs : List Loc} {ls : Array Slot} (hI : zI G K s (zA G K) H locs h) (hl : lv_has ls 4 [(0, .ref (G.1 a0)), (1, .int x1)]) : W p l e (zR 5) s m args below meth c H locs 0 0 (MQ below (zQv G K h') args s 0 0 (zA G K)) (F0 m 0 ls []) := by
  obtain ⟨hx, hb, hml, hown, hts, hr, hlocks, hK, hST, hNs⟩ := id X
  unfold m_Model_goFrom at hm
  refine lv_iconst (v := (nI 0)) hx hb d_Model_goFrom_0 (by decide) ?_
  refine lv_istore_n (lv' := [(2, .int (nI 0)), (0, .ref (G.1 a0)), (1, .int x1)]) hx hb d_Model_goFrom_1 rfl hl (by decide) rfl (fun ls hl => ?_)
  exact r_Model_goFrom_2 X a0 x1 zN ((nI 0), h) hm _ _ _ hI (lv_sub hl [1, 2, 0] rfl)
set_option maxHeartbeats 4000000 in
set_option maxRecDepth 100000 in
theorem c_Model_goFrom (l : Launch) (G : zG) (K : Nat) (a0 : Nat) (x1 : Int32) (h : zH) (h' : zH) (hm : m_Model_goFrom a0 x1 h = some h') : zMv l G K y_Model_goFrom prog_9_method_51_code 4 5 [.ref (G.1 a0), .int x1] h h' := zMet (by decide +kernel) (Nat.le_of_ble_eq_true rfl) (fun p e s m below meth c ls X hI hl => r_Model_goFrom_0 X a0 x1 h hm hI hl)
-- walk of AllHomeModel.findAll
theorem d_Model_findAll_0 : decode prog_9_method_52_code 0 = .ok (.aload_n 0, 1) := by decide +kernel
theorem d_Model_findAll_1 : decode prog_9_method_52_code 1 = .ok (.getfield 78, 3) := by decide +kernel
theorem d_Model_findAll_4 : decode prog_9_method_52_code 4 = .ok (.iconst 4, 1) := by decide +kernel
theorem d_Model_findAll_5 : decode prog_9_method_52_code 5 = .ok (.if_icmp .le 6, 3) := by decide +kernel
theorem d_Model_findAll_8 : decode prog_9_method_52_code 8 = .ok (.bipush (-4), 2) := by decide +kernel
theorem d_Model_findAll_10 : decode prog_9_method_52_code 10 = .ok (.ireturn, 1) := by decide +kernel
theorem d_Model_findAll_11 : decode prog_9_method_52_code 11 = .ok (.iconst 0, 1) := by decide +kernel
theorem d_Model_findAll_12 : decode prog_9_method_52_code 12 = .ok (.istore_n 2, 1) := by decide +kernel
theorem d_Model_findAll_13 : decode prog_9_method_52_code 13 = .ok (.iload_n 2, 1) := by decide +kernel
theorem d_Model_findAll_14 : decode prog_9_method_52_code 14 = .ok (.sipush 22801, 3) := by decide +kernel
theorem d_Model_findAll_17 : decode prog_9_method_52_code 17 = .ok (.if_icmp .ge 16, 3) := by decide +kernel
theorem d_Model_findAll_20 : decode prog_9_method_52_code 20 = .ok (.aload_n 0, 1) := by decide +kernel
theorem d_Model_findAll_21 : decode prog_9_method_52_code 21 = .ok (.getfield 59, 3) := by decide +kernel
theorem d_Model_findAll_24 : decode prog_9_method_52_code 24 = .ok (.iload_n 2, 1) := by decide +kernel
theorem d_Model_findAll_25 : decode prog_9_method_52_code 25 = .ok (.iconst 0, 1) := by decide +kernel
theorem d_Model_findAll_26 : decode prog_9_method_52_code 26 = .ok (.bastore, 1) := by decide +kernel
theorem d_Model_findAll_27 : decode prog_9_method_52_code 27 = .ok (.iinc 2 1, 3) := by decide +kernel
theorem d_Model_findAll_30 : decode prog_9_method_52_code 30 = .ok (.goto (-17), 3) := by decide +kernel
theorem d_Model_findAll_33 : decode prog_9_method_52_code 33 = .ok (.aload_n 0, 1) := by decide +kernel
theorem d_Model_findAll_34 : decode prog_9_method_52_code 34 = .ok (.iload_n 1, 1) := by decide +kernel
theorem d_Model_findAll_35 : decode prog_9_method_52_code 35 = .ok (.invokevirtual 203, 3) := by decide +kernel
theorem d_Model_findAll_38 : decode prog_9_method_52_code 38 = .ok (.aload_n 0, 1) := by decide +kernel
theorem d_Model_findAll_39 : decode prog_9_method_52_code 39 = .ok (.iconst 0, 1) := by decide +kernel
theorem d_Model_findAll_40 : decode prog_9_method_52_code 40 = .ok (.putfield 234, 3) := by decide +kernel
theorem d_Model_findAll_43 : decode prog_9_method_52_code 43 = .ok (.aload_n 0, 1) := by decide +kernel
theorem d_Model_findAll_44 : decode prog_9_method_52_code 44 = .ok (.iconst (-1), 1) := by decide +kernel
theorem d_Model_findAll_45 : decode prog_9_method_52_code 45 = .ok (.iconst 0, 1) := by decide +kernel
theorem d_Model_findAll_46 : decode prog_9_method_52_code 46 = .ok (.invokevirtual 243, 3) := by decide +kernel
theorem d_Model_findAll_49 : decode prog_9_method_52_code 49 = .ok (.iconst 0, 1) := by decide +kernel
theorem d_Model_findAll_50 : decode prog_9_method_52_code 50 = .ok (.istore_n 2, 1) := by decide +kernel
theorem d_Model_findAll_51 : decode prog_9_method_52_code 51 = .ok (.iload_n 2, 1) := by decide +kernel
theorem d_Model_findAll_52 : decode prog_9_method_52_code 52 = .ok (.aload_n 0, 1) := by decide +kernel
theorem d_Model_findAll_53 : decode prog_9_method_52_code 53 = .ok (.getfield 234, 3) := by decide +kernel
theorem d_Model_findAll_56 : decode prog_9_method_52_code 56 = .ok (.if_icmp .ge 39, 3) := by decide +kernel
theorem d_Model_findAll_59 : decode prog_9_method_52_code 59 = .ok (.aload_n 0, 1) := by decide +kernel
theorem d_Model_findAll_60 : decode prog_9_method_52_code 60 = .ok (.getfield 234, 3) := by decide +kernel
theorem d_Model_findAll_63 : decode prog_9_method_52_code 63 = .ok (.sipush 151, 3) := by decide +kernel
theorem d_Model_findAll_66 : decode prog_9_method_52_code 66 = .ok (.if_icmp .ge 29, 3) := by decide +kernel
theorem d_Model_findAll_69 : decode prog_9_method_52_code 69 = .ok (.aload_n 0, 1) := by decide +kernel
theorem d_Model_findAll_70 : decode prog_9_method_52_code 70 = .ok (.getfield 46, 3) := by decide +kernel
theorem d_Model_findAll_73 : decode prog_9_method_52_code 73 = .ok (.bipush 91, 2) := by decide +kernel
theorem d_Model_findAll_75 : decode prog_9_method_52_code 75 = .ok (.iload_n 2, 1) := by decide +kernel
theorem d_Model_findAll_76 : decode prog_9_method_52_code 76 = .ok (.imul, 1) := by decide +kernel
theorem d_Model_findAll_77 : decode prog_9_method_52_code 77 = .ok (.bipush 87, 2) := by decide +kernel
theorem d_Model_findAll_79 : decode prog_9_method_52_code 79 = .ok (.iadd, 1) := by decide +kernel
theorem d_Model_findAll_80 : decode prog_9_method_52_code 80 = .ok (.iaload, 1) := by decide +kernel
theorem d_Model_findAll_81 : decode prog_9_method_52_code 81 = .ok (.ifCond .ne 8, 3) := by decide +kernel
theorem d_Model_findAll_84 : decode prog_9_method_52_code 84 = .ok (.aload_n 0, 1) := by decide +kernel
theorem d_Model_findAll_85 : decode prog_9_method_52_code 85 = .ok (.iload_n 2, 1) := by decide +kernel
theorem d_Model_findAll_86 : decode prog_9_method_52_code 86 = .ok (.invokevirtual 246, 3) := by decide +kernel
theorem d_Model_findAll_89 : decode prog_9_method_52_code 89 = .ok (.iinc 2 1, 3) := by decide +kernel
theorem d_Model_findAll_92 : decode prog_9_method_52_code 92 = .ok (.goto (-41), 3) := by decide +kernel
theorem d_Model_findAll_95 : decode prog_9_method_52_code 95 = .ok (.aload_n 0, 1) := by decide +kernel
theorem d_Model_findAll_96 : decode prog_9_method_52_code 96 = .ok (.getfield 234, 3) := by decide +kernel
theorem d_Model_findAll_99 : decode prog_9_method_52_code 99 = .ok (.sipush 151, 3) := by decide +kernel
theorem d_Model_findAll_102 : decode prog_9_method_52_code 102 = .ok (.if_icmp .ne 8, 3) := by decide +kernel
theorem d_Model_findAll_105 : decode prog_9_method_52_code 105 = .ok (.bipush (-4), 2) := by decide +kernel
theorem d_Model_findAll_107 : decode prog_9_method_52_code 107 = .ok (.goto 4, 3) := by decide +kernel
theorem d_Model_findAll_110 : decode prog_9_method_52_code 110 = .ok (.iconst 0, 1) := by decide +kernel
theorem d_Model_findAll_111 : decode prog_9_method_52_code 111 = .ok (.ireturn, 1) := by decide +kernel
set_option maxHeartbeats 4000000 in
set_option maxRecDepth 100000 in
theorem r_Model_findAll_51_b {p : Program} {l : Launch} {e : Env} {s : State} {m : MethodId} {args : Array Value} {below : List Frame} {meth : Method} {c : Code} {G : zG} {K : Nat} (X : zX p s m args meth c "AllHomeModel" prog_9_method_52_code 3 (some .int) G (zA G K)) {r : Int32} {h' : zH} (a0 : Nat) (k51 : (Int32 × zH) → Option (Int32 × zH)) (hk51 : ∀ (w : Int32 × zH), k51 w = some (r, h') → ∀ (H : Heap) (locs : List Loc) (ls : Array Slot), zI G K s (zA G K) H locs w.2 → lv_has ls 3 [(0, .ref (G.1 a0)), (2, .int w.1)] → W p l e (zR 6) s m args below meth c H locs 0 0 (MQ below (zQi G K r h') args s 0 0 (zA G K)) (F0 m 51 ls [])) (u : Int32 × zH) (hm : g_Model_findAll_51 a0 k51 u = some (r, h')) {H : Heap} {locs : List Loc} {ls : Array Slot} (hI : zI G K s (zA G K) H locs u.2) (hl : lv_has ls 3 [(0, .ref (G.1 a0)), (2, .int u.1)]) : W p l e (zR 6) s m args below meth c H locs 0 0 (MQ below (zQi G K r h') args s 0 0 (zA G K)) (F0 m 51 ls []) := by
  obtain ⟨hx, hb, hml, hown, hts, hr, hlocks, hK, hST, hNs⟩ := id X
  unfold g_Model_findAll_51 at hm
  refine lv_iload_n hx hb d_Model_findAll_51 rfl (lv_at hl 1 rfl) ?_
  refine lv_aload_n hx hb d_Model_findAll_52 rfl (lv_at hl 0 rfl) ?_
  obtain ⟨v53, hv, hm⟩ := zbd hm
  refine z_getI X hI F_Model_234 hv d_Model_findAll_53 ?_
  refine lv_icmp_ge (tgt := 95) hx hb d_Model_findAll_56 (by decide) (fun hc56 => ?_) (fun hc56 => ?_)
  · replace hm := zif_t hc56 hm
    refine lv_aload_n hx hb d_Model_findAll_95 rfl (lv_at hl 0 rfl) ?_
    obtain ⟨v96, hv, hm⟩ := zbd hm
    refine z_getI X hI F_Model_234 hv d_Model_findAll_96 ?_
    refine lv_sipush (v := (nI 151)) hx hb d_Model_findAll_99 (by decide) ?_
    refine lv_icmp_ne (tgt := 110) hx hb d_Model_findAll_102 (by decide) (fun hc102 => ?_) (fun hc102 => ?_)
    · replace hm := zif_f hc102 hm
      refine lv_iconst (v := (nI 0)) hx hb d_Model_findAll_110 (by decide) ?_
      obtain ⟨rfl, rfl⟩ := zs2 hm
      exact z_iret X hI d_Model_findAll_111
    · replace hm := zif_t hc102 hm
      refine lv_bipush (v := (-4 : Int32)) hx hb d_Model_findAll_105 (by decide) ?_
      refine lv_goto (tgt := 111) hx hb d_Model_findAll_107 (by decide) ?_
      obtain ⟨rfl, rfl⟩ := zs2 hm
      exact z_iret X hI d_Model_findAll_111
  · replace hm := zif_f hc56 hm
    refine lv_aload_n hx hb d_Model_findAll_59 rfl (lv_at hl 0 rfl) ?_
    obtain ⟨v60, hv, hm⟩ := zbd hm
    refine z_getI X hI F_Model_234 hv d_Model_findAll_60 ?_
    refine lv_sipush (v := (nI 151)) hx hb d_Model_findAll_63 (by decide) ?_
    refine lv_icmp_ge (tgt := 95) hx hb d_Model_findAll_66 (by decide) (fun hc66 => ?_) (fun hc66 => ?_)
    · replace hm := zif_t hc66 hm
      refine lv_aload_n hx hb d_Model_findAll_95 rfl (lv_at hl 0 rfl) ?_
      obtain ⟨v96, hv, hm⟩ := zbd hm
      refine z_getI X hI F_Model_234 hv d_Model_findAll_96 ?_
      refine lv_sipush (v := (nI 151)) hx hb d_Model_findAll_99 (by decide) ?_
      refine lv_icmp_ne (tgt := 110) hx hb d_Model_findAll_102 (by decide) (fun hc102 => ?_) (fun hc102 => ?_)
      · replace hm := zif_f hc102 hm
        refine lv_iconst (v := (nI 0)) hx hb d_Model_findAll_110 (by decide) ?_
        obtain ⟨rfl, rfl⟩ := zs2 hm
        exact z_iret X hI d_Model_findAll_111
      · replace hm := zif_t hc102 hm
        refine lv_bipush (v := (-4 : Int32)) hx hb d_Model_findAll_105 (by decide) ?_
        refine lv_goto (tgt := 111) hx hb d_Model_findAll_107 (by decide) ?_
        obtain ⟨rfl, rfl⟩ := zs2 hm
        exact z_iret X hI d_Model_findAll_111
    · replace hm := zif_f hc66 hm
      refine lv_aload_n hx hb d_Model_findAll_69 rfl (lv_at hl 0 rfl) ?_
      obtain ⟨v70, hv, hm⟩ := zbd hm
      refine z_getR X hI F_Model_46 hv d_Model_findAll_70 ?_
      refine lv_bipush (v := (nI 91)) hx hb d_Model_findAll_73 (by decide) ?_
      refine lv_iload_n hx hb d_Model_findAll_75 rfl (lv_at hl 1 rfl) ?_
      refine lv_imul hx hb d_Model_findAll_76 ?_
      refine lv_bipush (v := (nI 87)) hx hb d_Model_findAll_77 (by decide) ?_
      refine lv_iadd hx hb d_Model_findAll_79 ?_
      obtain ⟨v80, hv, hm⟩ := zbd hm
      refine z_iald X hI hv d_Model_findAll_80 ?_
      refine lv_if_ne (tgt := 89) hx hb d_Model_findAll_81 (by decide) (fun hc81 => ?_) (fun hc81 => ?_)
      · replace hm := zif_f hc81 hm
        refine lv_iinc (v := (u.1 + (nI 1))) (lv' := [(2, .int (u.1 + (nI 1))), (0, .ref (G.1 a0))]) hx hb d_Model_findAll_89 hl (k := 1) rfl (congrArg (fun z => u.1 + z) (show Int32.ofInt (1) = (nI 1) by decide)) (by decide) rfl (fun ls hl => ?_)
        refine lv_goto (tgt := 51) hx hb d_Model_findAll_92 (by decide) ?_
        obtain ⟨g0, e0⟩ : ∃ z, z = (u.1 + (nI 1)) := ⟨_, rfl⟩
        rw [← e0] at hm hl
        obtain ⟨g1, e1⟩ : ∃ z, z = u.2 := ⟨_, rfl⟩
        rw [← e1] at hm hI
        exact hk51 (g0, g1) hm _ _ _ hI (lv_sub hl [1, 0] rfl)
      · replace hm := zif_t hc81 hm
        refine lv_aload_n hx hb d_Model_findAll_84 rfl (lv_at hl 0 rfl) ?_
        refine lv_iload_n hx hb d_Model_findAll_85 rfl (lv_at hl 1 rfl) ?_
        obtain ⟨h86, hv, hm⟩ := zbd hm
        obtain ⟨hq, hv⟩ := zcv_at hv
        refine z_cv hI (z_runV (As := [.int u.1]) (rest := []) X hI hl.1 (c_Model_goFrom l G K a0 u.1 u.2 _ hv) C_Model_246 rfl hq (Nat.le_of_ble_eq_true rfl) ⟨Nat.le_of_ble_eq_true rfl, Nat.le_of_ble_eq_true rfl, Nat.zero_le _, Nat.zero_le _⟩ rfl d_Model_findAll_86) (fun H locs hI => ?_)
        refine lv_iinc (v := (u.1 + (nI 1))) (lv' := [(2, .int (u.1 + (nI 1))), (0, .ref (G.1 a0))]) hx hb d_Model_findAll_89 hl (k := 1) rfl (congrArg (fun z => u.1 + z) (show Int32.ofInt (1) = (nI 1) by decide)) (by decide) rfl (fun ls hl => ?_)
        refine lv_goto (tgt := 51) hx hb d_Model_findAll_92 (by decide) ?_
        obtain ⟨g0, e0⟩ : ∃ z, z = (u.1 + (nI 1)) := ⟨_, rfl⟩
        rw [← e0] at hm hl
        exact hk51 (g0, h86) hm _ _ _ hI (lv_sub hl [1, 0] rfl)
theorem r_Model_findAll_51 {p : Program} {l : Launch} {e : Env} {s : State} {m : MethodId} {args : Array Value} {below : List Frame} {meth : Method} {c : Code} {G : zG} {K : Nat} (X : zX p s m args meth c "AllHomeModel" prog_9_method_52_code 3 (some .int) G (zA G K)) {r : Int32} {h' : zH} (a0 : Nat) : ∀ (n : Nat) (w : Int32 × zH), zloop (g_Model_findAll_51 a0) n w = some (r, h') → ∀ (H : Heap) (locs : List Loc) (ls : Array Slot), zI G K s (zA G K) H locs w.2 → lv_has ls 3 [(0, .ref (G.1 a0)), (2, .int w.1)] → W p l e (zR 6) s m args below meth c H locs 0 0 (MQ below (zQi G K r h') args s 0 0 (zA G K)) (F0 m 51 ls []) := by
  intro n
  induction n with
  | zero => intro w hm; cases hm
  | succ n ih => intro w hm H locs ls hI hl; exact r_Model_findAll_51_b X a0 (zloop (g_Model_findAll_51 a0) n) ih w (zls hm) hI hl
set_option maxHeartbeats 4000000 in
set_option maxRecDepth 100000 in
theorem r_Model_findAll_13_b {p : Program} {l : Launch} {e : Env} {s : State} {m : MethodId} {args : Array Value} {below : List Frame} {meth : Method} {c : Code} {G : zG} {K : Nat} (X : zX p s m args meth c "AllHomeModel" prog_9_method_52_code 3 (some .int) G (zA G K)) {r : Int32} {h' : zH} (a0 : Nat) (x1 : Int32) (k13 : (Int32 × zH) → Option (Int32 × zH)) (hk13 : ∀ (w : Int32 × zH), k13 w = some (r, h') → ∀ (H : Heap) (locs : List Loc) (ls : Array Slot), zI G K s (zA G K) H locs w.2 → lv_has ls 3 [(0, .ref (G.1 a0)), (1, .int x1), (2, .int w.1)] → W p l e (zR 6) s m args below meth c H locs 0 0 (MQ below (zQi G K r h') args s 0 0 (zA G K)) (F0 m 13 ls [])) (u : Int32 × zH) (hm : g_Model_findAll_13 a0 x1 k13 u = some (r, h')) {H : Heap} {locs : List Loc} {ls : Array Slot} (hI : zI G K s (zA G K) H locs u.2) (hl : lv_has ls 3 [(0, .ref (G.1 a0)), (1, .int x1), (2, .int u.1)]) : W p l e (zR 6) s m args below meth c H locs 0 0 (MQ below (zQi G K r h') args s 0 0 (zA G K)) (F0 m 13 ls []) := by
  obtain ⟨hx, hb, hml, hown, hts, hr, hlocks, hK, hST, hNs⟩ := id X
  unfold g_Model_findAll_13 at hm
  refine lv_iload_n hx hb d_Model_findAll_13 rfl (lv_at hl 2 rfl) ?_
  refine lv_sipush (v := (nI 22801)) hx hb d_Model_findAll_14 (by decide) ?_
  refine lv_icmp_ge (tgt := 33) hx hb d_Model_findAll_17 (by decide) (fun hc17 => ?_) (fun hc17 => ?_)
  · replace hm := zif_t hc17 hm
    refine lv_aload_n hx hb d_Model_findAll_33 rfl (lv_at hl 0 rfl) ?_
    refine lv_iload_n hx hb d_Model_findAll_34 rfl (lv_at hl 1 rfl) ?_
    obtain ⟨h35, hv, hm⟩ := zbd hm
    obtain ⟨hq, hv⟩ := zcv_at hv
    refine z_cv hI (z_runV (As := [.int x1]) (rest := []) X hI hl.1 (c_Model_begin l G K a0 x1 u.2 _ hv) C_Model_203 rfl hq (Nat.le_of_ble_eq_true rfl) ⟨Nat.le_of_ble_eq_true rfl, Nat.le_of_ble_eq_true rfl, Nat.zero_le _, Nat.zero_le _⟩ rfl d_Model_findAll_35) (fun H locs hI => ?_)
    refine lv_aload_n hx hb d_Model_findAll_38 rfl (lv_at hl 0 rfl) ?_
    refine lv_iconst (v := (nI 0)) hx hb d_Model_findAll_39 (by decide) ?_
    obtain ⟨h40, hv, hm⟩ := zbd hm
    refine z_putI X hI P_Model_234 hv d_Model_findAll_40 (fun H locs hI => ?_)
    refine lv_aload_n hx hb d_Model_findAll_43 rfl (lv_at hl 0 rfl) ?_
    refine lv_iconst (v := (-1 : Int32)) hx hb d_Model_findAll_44 (by decide) ?_
    refine lv_iconst (v := (nI 0)) hx hb d_Model_findAll_45 (by decide) ?_
    obtain ⟨h46, hv, hm⟩ := zbd hm
    obtain ⟨hq, hv⟩ := zcv_at hv
    refine z_cv hI (z_runV (As := [.int (-1 : Int32), .int (nI 0)]) (rest := []) X hI hl.1 (c_Model_keepState l G K a0 (-1 : Int32) (nI 0) h40 _ hv) C_Model_243 rfl hq (Nat.le_of_ble_eq_true rfl) ⟨Nat.le_of_ble_eq_true rfl, Nat.le_of_ble_eq_true rfl, Nat.zero_le _, Nat.zero_le _⟩ rfl d_Model_findAll_46) (fun H locs hI => ?_)
    refine lv_iconst (v := (nI 0)) hx hb d_Model_findAll_49 (by decide) ?_
    refine lv_istore_n (lv' := [(2, .int (nI 0)), (0, .ref (G.1 a0)), (1, .int x1)]) hx hb d_Model_findAll_50 rfl hl (by decide) rfl (fun ls hl => ?_)
    exact r_Model_findAll_51 X a0 zN ((nI 0), h46) hm _ _ _ hI (lv_sub hl [1, 0] rfl)
  · replace hm := zif_f hc17 hm
    refine lv_aload_n hx hb d_Model_findAll_20 rfl (lv_at hl 0 rfl) ?_
    obtain ⟨v21, hv, hm⟩ := zbd hm
    refine z_getR X hI F_Model_59 hv d_Model_findAll_21 ?_
    refine lv_iload_n hx hb d_Model_findAll_24 rfl (lv_at hl 2 rfl) ?_
    refine lv_iconst (v := (nI 0)) hx hb d_Model_findAll_25 (by decide) ?_
    obtain ⟨h26, hv, hm⟩ := zbd hm
    refine z_zast X hI hv d_Model_findAll_26 (fun H locs hI => ?_)
    refine lv_iinc (v := (u.1 + (nI 1))) (lv' := [(2, .int (u.1 + (nI 1))), (0, .ref (G.1 a0)), (1, .int x1)]) hx hb d_Model_findAll_27 hl (k := 2) rfl (congrArg (fun z => u.1 + z) (show Int32.ofInt (1) = (nI 1) by decide)) (by decide) rfl (fun ls hl => ?_)
    refine lv_goto (tgt := 13) hx hb d_Model_findAll_30 (by decide) ?_
    obtain ⟨g0, e0⟩ : ∃ z, z = (u.1 + (nI 1)) := ⟨_, rfl⟩
    rw [← e0] at hm hl
    exact hk13 (g0, h26) hm _ _ _ hI (lv_sub hl [1, 2, 0] rfl)
theorem r_Model_findAll_13 {p : Program} {l : Launch} {e : Env} {s : State} {m : MethodId} {args : Array Value} {below : List Frame} {meth : Method} {c : Code} {G : zG} {K : Nat} (X : zX p s m args meth c "AllHomeModel" prog_9_method_52_code 3 (some .int) G (zA G K)) {r : Int32} {h' : zH} (a0 : Nat) (x1 : Int32) : ∀ (n : Nat) (w : Int32 × zH), zloop (g_Model_findAll_13 a0 x1) n w = some (r, h') → ∀ (H : Heap) (locs : List Loc) (ls : Array Slot), zI G K s (zA G K) H locs w.2 → lv_has ls 3 [(0, .ref (G.1 a0)), (1, .int x1), (2, .int w.1)] → W p l e (zR 6) s m args below meth c H locs 0 0 (MQ below (zQi G K r h') args s 0 0 (zA G K)) (F0 m 13 ls []) := by
  intro n
  induction n with
  | zero => intro w hm; cases hm
  | succ n ih => intro w hm H locs ls hI hl; exact r_Model_findAll_13_b X a0 x1 (zloop (g_Model_findAll_13 a0 x1) n) ih w (zls hm) hI hl
set_option maxHeartbeats 4000000 in
set_option maxRecDepth 100000 in
theorem r_Model_findAll_0 {p : Program} {l : Launch} {e : Env} {s : State} {m : MethodId} {args : Array Value} {below : List Frame} {meth : Method} {c : Code} {G : zG} {K : Nat} (X : zX p s m args meth c "AllHomeModel" prog_9_method_52_code 3 (some .int) G (zA G K)) {r : Int32} {h' : zH} (a0 : Nat) (x1 : Int32) (h : zH) (hm : m_Model_findAll a0 x1 h = some (r, h')) {H : Heap} {locs : List Loc} {ls : Array Slot} (hI : zI G K s (zA G K) H locs h) (hl : lv_has ls 3 [(0, .ref (G.1 a0)), (1, .int x1)]) : W p l e (zR 6) s m args below meth c H locs 0 0 (MQ below (zQi G K r h') args s 0 0 (zA G K)) (F0 m 0 ls []) := by
  obtain ⟨hx, hb, hml, hown, hts, hr, hlocks, hK, hST, hNs⟩ := id X
  unfold m_Model_findAll at hm
  refine lv_aload_n hx hb d_Model_findAll_0 rfl (lv_at hl 0 rfl) ?_
  obtain ⟨v1, hv, hm⟩ := zbd hm
  refine z_getI X hI F_Model_78 hv d_Model_findAll_1 ?_
  refine lv_iconst (v := (nI 4)) hx hb d_Model_findAll_4 (by decide) ?_
  refine lv_icmp_le (tgt := 11) hx hb d_Model_findAll_5 (by decide) (fun hc5 => ?_) (fun hc5 => ?_)
  · replace hm := zif_t hc5 hm
    refine lv_iconst (v := (nI 0)) hx hb d_Model_findAll_11 (by decide) ?_
    refine lv_istore_n (lv' := [(2, .int (nI 0)), (0, .ref (G.1 a0)), (1, .int x1)]) hx hb d_Model_findAll_12 rfl hl (by decide) rfl (fun ls hl => ?_)
    exact r_Model_findAll_13 X a0 x1 zN ((nI 0), h) hm _ _ _ hI (lv_sub hl [1, 2, 0] rfl)
  · replace hm := zif_f hc5 hm
    refine lv_bipush (v := (-4 : Int32)) hx hb d_Model_findAll_8 (by decide) ?_
    obtain ⟨rfl, rfl⟩ := zs2 hm
    exact z_iret X hI d_Model_findAll_10
set_option maxHeartbeats 4000000 in
set_option maxRecDepth 100000 in
theorem c_Model_findAll (l : Launch) (G : zG) (K : Nat) (a0 : Nat) (x1 : Int32) (h : zH) (r : Int32) (h' : zH) (hm : m_Model_findAll a0 x1 h = some (r, h')) : zMi l G K y_Model_findAll prog_9_method_52_code 3 6 [.ref (G.1 a0), .int x1] h r h' := zMet (by decide +kernel) (Nat.le_of_ble_eq_true rfl) (fun p e s m below meth c ls X hI hl => r_Model_findAll_0 X a0 x1 h hm hI hl)
-- walk of AllHomeModel.noOrders
theorem d_Model_noOrders_0 : decode prog_9_method_53_code 0 = .ok (.aload_n 0, 1) := by decide +kernel
theorem d_Model_noOrders_1 : decode prog_9_method_53_code 1 = .ok (.iload_n 1, 1) := by decide +kernel
theorem d_Model_noOrders_2 : decode prog_9_method_53_code 2 = .ok (.invokevirtual 128, 3) := by decide +kernel
theorem d_Model_noOrders_5 : decode prog_9_method_53_code 5 = .ok (.ifCond .ne 5, 3) := by decide +kernel
theorem d_Model_noOrders_8 : decode prog_9_method_53_code 8 = .ok (.iconst (-1), 1) := by decide +kernel
theorem d_Model_noOrders_9 : decode prog_9_method_53_code 9 = .ok (.ireturn, 1) := by decide +kernel
theorem d_Model_noOrders_10 : decode prog_9_method_53_code 10 = .ok (.aload_n 0, 1) := by decide +kernel
theorem d_Model_noOrders_11 : decode prog_9_method_53_code 11 = .ok (.getfield 78, 3) := by decide +kernel
theorem d_Model_noOrders_14 : decode prog_9_method_53_code 14 = .ok (.ifCond .ne 8, 3) := by decide +kernel
theorem d_Model_noOrders_17 : decode prog_9_method_53_code 17 = .ok (.bipush (-5), 2) := by decide +kernel
theorem d_Model_noOrders_19 : decode prog_9_method_53_code 19 = .ok (.goto 13, 3) := by decide +kernel
theorem d_Model_noOrders_22 : decode prog_9_method_53_code 22 = .ok (.aload_n 0, 1) := by decide +kernel
theorem d_Model_noOrders_23 : decode prog_9_method_53_code 23 = .ok (.aload_n 0, 1) := by decide +kernel
theorem d_Model_noOrders_24 : decode prog_9_method_53_code 24 = .ok (.getfield 19, 3) := by decide +kernel
theorem d_Model_noOrders_27 : decode prog_9_method_53_code 27 = .ok (.iload_n 1, 1) := by decide +kernel
theorem d_Model_noOrders_28 : decode prog_9_method_53_code 28 = .ok (.iaload, 1) := by decide +kernel
theorem d_Model_noOrders_29 : decode prog_9_method_53_code 29 = .ok (.invokevirtual 249, 3) := by decide +kernel
theorem d_Model_noOrders_32 : decode prog_9_method_53_code 32 = .ok (.ireturn, 1) := by decide +kernel
set_option maxHeartbeats 4000000 in
set_option maxRecDepth 100000 in
theorem r_Model_noOrders_0 {p : Program} {l : Launch} {e : Env} {s : State} {m : MethodId} {args : Array Value} {below : List Frame} {meth : Method} {c : Code} {G : zG} {K : Nat} (X : zX p s m args meth c "AllHomeModel" prog_9_method_53_code 2 (some .int) G (zA G K)) {r : Int32} {h' : zH} (a0 : Nat) (x1 : Int32) (h : zH) (hm : m_Model_noOrders a0 x1 h = some (r, h')) {H : Heap} {locs : List Loc} {ls : Array Slot} (hI : zI G K s (zA G K) H locs h) (hl : lv_has ls 2 [(0, .ref (G.1 a0)), (1, .int x1)]) : W p l e (zR 7) s m args below meth c H locs 0 0 (MQ below (zQi G K r h') args s 0 0 (zA G K)) (F0 m 0 ls []) := by
  obtain ⟨hx, hb, hml, hown, hts, hr, hlocks, hK, hST, hNs⟩ := id X
  unfold m_Model_noOrders at hm
  refine lv_aload_n hx hb d_Model_noOrders_0 rfl (lv_at hl 0 rfl) ?_
  refine lv_iload_n hx hb d_Model_noOrders_1 rfl (lv_at hl 1 rfl) ?_
  obtain ⟨v2, hv, hm⟩ := zbd hm
  obtain ⟨hq, hv⟩ := zcv_at hv
  refine z_ci hI (z_runV (As := [.int x1]) (rest := []) X hI hl.1 (c_Model_isWay l G K a0 x1 h _ hv) C_Model_128 rfl hq (Nat.le_of_ble_eq_true rfl) ⟨Nat.le_of_ble_eq_true rfl, Nat.le_of_ble_eq_true rfl, Nat.zero_le _, Nat.zero_le _⟩ rfl d_Model_noOrders_2) (fun H locs hI => ?_)
  refine lv_if_ne (tgt := 10) hx hb d_Model_noOrders_5 (by decide) (fun hc5 => ?_) (fun hc5 => ?_)
  · replace hm := zif_f hc5 hm
    refine lv_aload_n hx hb d_Model_noOrders_10 rfl (lv_at hl 0 rfl) ?_
    obtain ⟨v11, hv, hm⟩ := zbd hm
    refine z_getI X hI F_Model_78 hv d_Model_noOrders_11 ?_
    refine lv_if_ne (tgt := 22) hx hb d_Model_noOrders_14 (by decide) (fun hc14 => ?_) (fun hc14 => ?_)
    · replace hm := zif_f hc14 hm
      refine lv_aload_n hx hb d_Model_noOrders_22 rfl (lv_at hl 0 rfl) ?_
      refine lv_aload_n hx hb d_Model_noOrders_23 rfl (lv_at hl 0 rfl) ?_
      obtain ⟨v24, hv, hm⟩ := zbd hm
      refine z_getR X hI F_Model_19 hv d_Model_noOrders_24 ?_
      refine lv_iload_n hx hb d_Model_noOrders_27 rfl (lv_at hl 1 rfl) ?_
      obtain ⟨v28, hv, hm⟩ := zbd hm
      refine z_iald X hI hv d_Model_noOrders_28 ?_
      obtain ⟨v29, h29, hv, hm⟩ := zb2_at hm
      obtain ⟨hq, hv⟩ := zcv_at hv
      refine z_ci hI (z_runV (As := [.int v28]) (rest := []) X hI hl.1 (c_Model_findAll l G K a0 v28 h _ _ hv) C_Model_249 rfl hq (Nat.le_of_ble_eq_true rfl) ⟨Nat.le_of_ble_eq_true rfl, Nat.le_of_ble_eq_true rfl, Nat.zero_le _, Nat.zero_le _⟩ rfl d_Model_noOrders_29) (fun H locs hI => ?_)
      obtain ⟨rfl, rfl⟩ := zs2 hm
      exact z_iret X hI d_Model_noOrders_32
    · replace hm := zif_t hc14 hm
      refine lv_bipush (v := (-5 : Int32)) hx hb d_Model_noOrders_17 (by decide) ?_
      refine lv_goto (tgt := 32) hx hb d_Model_noOrders_19 (by decide) ?_
      obtain ⟨rfl, rfl⟩ := zs2 hm
      exact z_iret X hI d_Model_noOrders_32
  · replace hm := zif_t hc5 hm
    refine lv_iconst (v := (-1 : Int32)) hx hb d_Model_noOrders_8 (by decide) ?_
    obtain ⟨rfl, rfl⟩ := zs2 hm
    exact z_iret X hI d_Model_noOrders_9
set_option maxHeartbeats 4000000 in
set_option maxRecDepth 100000 in
theorem c_Model_noOrders (l : Launch) (G : zG) (K : Nat) (a0 : Nat) (x1 : Int32) (h : zH) (r : Int32) (h' : zH) (hm : m_Model_noOrders a0 x1 h = some (r, h')) : zMi l G K y_Model_noOrders prog_9_method_53_code 2 7 [.ref (G.1 a0), .int x1] h r h' := zMet (by decide +kernel) (Nat.le_of_ble_eq_true rfl) (fun p e s m below meth c ls X hI hl => r_Model_noOrders_0 X a0 x1 h hm hI hl)
-- walk of AllHomeModel.states
theorem d_Model_states_0 : decode prog_9_method_54_code 0 = .ok (.aload_n 0, 1) := by decide +kernel
theorem d_Model_states_1 : decode prog_9_method_54_code 1 = .ok (.iload_n 1, 1) := by decide +kernel
theorem d_Model_states_2 : decode prog_9_method_54_code 2 = .ok (.invokevirtual 252, 3) := by decide +kernel
theorem d_Model_states_5 : decode prog_9_method_54_code 5 = .ok (.istore_n 2, 1) := by decide +kernel
theorem d_Model_states_6 : decode prog_9_method_54_code 6 = .ok (.iload_n 2, 1) := by decide +kernel
theorem d_Model_states_7 : decode prog_9_method_54_code 7 = .ok (.ifCond .ge 7, 3) := by decide +kernel
theorem d_Model_states_10 : decode prog_9_method_54_code 10 = .ok (.iload_n 2, 1) := by decide +kernel
theorem d_Model_states_11 : decode prog_9_method_54_code 11 = .ok (.goto 7, 3) := by decide +kernel
theorem d_Model_states_14 : decode prog_9_method_54_code 14 = .ok (.aload_n 0, 1) := by decide +kernel
theorem d_Model_states_15 : decode prog_9_method_54_code 15 = .ok (.getfield 234, 3) := by decide +kernel
theorem d_Model_states_18 : decode prog_9_method_54_code 18 = .ok (.ireturn, 1) := by decide +kernel
set_option maxHeartbeats 4000000 in
set_option maxRecDepth 100000 in
theorem r_Model_states_0 {p : Program} {l : Launch} {e : Env} {s : State} {m : MethodId} {args : Array Value} {below : List Frame} {meth : Method} {c : Code} {G : zG} {K : Nat} (X : zX p s m args meth c "AllHomeModel" prog_9_method_54_code 3 (some .int) G (zA G K)) {r : Int32} {h' : zH} (a0 : Nat) (x1 : Int32) (h : zH) (hm : m_Model_states a0 x1 h = some (r, h')) {H : Heap} {locs : List Loc} {ls : Array Slot} (hI : zI G K s (zA G K) H locs h) (hl : lv_has ls 3 [(0, .ref (G.1 a0)), (1, .int x1)]) : W p l e (zR 8) s m args below meth c H locs 0 0 (MQ below (zQi G K r h') args s 0 0 (zA G K)) (F0 m 0 ls []) := by
  obtain ⟨hx, hb, hml, hown, hts, hr, hlocks, hK, hST, hNs⟩ := id X
  unfold m_Model_states at hm
  refine lv_aload_n hx hb d_Model_states_0 rfl (lv_at hl 0 rfl) ?_
  refine lv_iload_n hx hb d_Model_states_1 rfl (lv_at hl 1 rfl) ?_
  obtain ⟨v2, h2, hv, hm⟩ := zb2_at hm
  obtain ⟨hq, hv⟩ := zcv_at hv
  refine z_ci hI (z_runV (As := [.int x1]) (rest := []) X hI hl.1 (c_Model_noOrders l G K a0 x1 h _ _ hv) C_Model_252 rfl hq (Nat.le_of_ble_eq_true rfl) ⟨Nat.le_of_ble_eq_true rfl, Nat.le_of_ble_eq_true rfl, Nat.zero_le _, Nat.zero_le _⟩ rfl d_Model_states_2) (fun H locs hI => ?_)
  refine lv_istore_n (lv' := [(2, .int v2), (0, .ref (G.1 a0)), (1, .int x1)]) hx hb d_Model_states_5 rfl hl (by decide) rfl (fun ls hl => ?_)
  refine lv_iload_n hx hb d_Model_states_6 rfl (lv_at hl 0 rfl) ?_
  refine lv_if_ge (tgt := 14) hx hb d_Model_states_7 (by decide) (fun hc7 => ?_) (fun hc7 => ?_)
  · replace hm := zif_t hc7 hm
    refine lv_aload_n hx hb d_Model_states_14 rfl (lv_at hl 1 rfl) ?_
    obtain ⟨v15, hv, hm⟩ := zbd hm
    refine z_getI X hI F_Model_234 hv d_Model_states_15 ?_
    obtain ⟨rfl, rfl⟩ := zs2 hm
    exact z_iret X hI d_Model_states_18
  · replace hm := zif_f hc7 hm
    refine lv_iload_n hx hb d_Model_states_10 rfl (lv_at hl 0 rfl) ?_
    refine lv_goto (tgt := 18) hx hb d_Model_states_11 (by decide) ?_
    obtain ⟨rfl, rfl⟩ := zs2 hm
    exact z_iret X hI d_Model_states_18
set_option maxHeartbeats 4000000 in
set_option maxRecDepth 100000 in
theorem c_Model_states (l : Launch) (G : zG) (K : Nat) (a0 : Nat) (x1 : Int32) (h : zH) (r : Int32) (h' : zH) (hm : m_Model_states a0 x1 h = some (r, h')) : zMi l G K y_Model_states prog_9_method_54_code 3 8 [.ref (G.1 a0), .int x1] h r h' := zMet (by decide +kernel) (Nat.le_of_ble_eq_true rfl) (fun p e s m below meth c ls X hI hl => r_Model_states_0 X a0 x1 h hm hI hl)
-- walk of AllHomeModel.stepsTo
theorem d_Model_stepsTo_0 : decode prog_9_method_55_code 0 = .ok (.iconst 0, 1) := by decide +kernel
theorem d_Model_stepsTo_1 : decode prog_9_method_55_code 1 = .ok (.istore_n 2, 1) := by decide +kernel
theorem d_Model_stepsTo_2 : decode prog_9_method_55_code 2 = .ok (.iload_n 1, 1) := by decide +kernel
theorem d_Model_stepsTo_3 : decode prog_9_method_55_code 3 = .ok (.istore_n 3, 1) := by decide +kernel
theorem d_Model_stepsTo_4 : decode prog_9_method_55_code 4 = .ok (.aload_n 0, 1) := by decide +kernel
theorem d_Model_stepsTo_5 : decode prog_9_method_55_code 5 = .ok (.getfield 49, 3) := by decide +kernel
theorem d_Model_stepsTo_8 : decode prog_9_method_55_code 8 = .ok (.iload_n 3, 1) := by decide +kernel
theorem d_Model_stepsTo_9 : decode prog_9_method_55_code 9 = .ok (.iaload, 1) := by decide +kernel
theorem d_Model_stepsTo_10 : decode prog_9_method_55_code 10 = .ok (.ifCond .lt 16, 3) := by decide +kernel
theorem d_Model_stepsTo_13 : decode prog_9_method_55_code 13 = .ok (.iinc 2 1, 3) := by decide +kernel
theorem d_Model_stepsTo_16 : decode prog_9_method_55_code 16 = .ok (.aload_n 0, 1) := by decide +kernel
theorem d_Model_stepsTo_17 : decode prog_9_method_55_code 17 = .ok (.getfield 49, 3) := by decide +kernel
theorem d_Model_stepsTo_20 : decode prog_9_method_55_code 20 = .ok (.iload_n 3, 1) := by decide +kernel
theorem d_Model_stepsTo_21 : decode prog_9_method_55_code 21 = .ok (.iaload, 1) := by decide +kernel
theorem d_Model_stepsTo_22 : decode prog_9_method_55_code 22 = .ok (.istore_n 3, 1) := by decide +kernel
theorem d_Model_stepsTo_23 : decode prog_9_method_55_code 23 = .ok (.goto (-19), 3) := by decide +kernel
theorem d_Model_stepsTo_26 : decode prog_9_method_55_code 26 = .ok (.iload_n 2, 1) := by decide +kernel
theorem d_Model_stepsTo_27 : decode prog_9_method_55_code 27 = .ok (.ireturn, 1) := by decide +kernel
set_option maxHeartbeats 4000000 in
set_option maxRecDepth 100000 in
theorem r_Model_stepsTo_4_b {p : Program} {l : Launch} {e : Env} {s : State} {m : MethodId} {args : Array Value} {below : List Frame} {meth : Method} {c : Code} {G : zG} {K : Nat} (X : zX p s m args meth c "AllHomeModel" prog_9_method_55_code 4 (some .int) G (zA G K)) {r : Int32} (a0 : Nat) (h : zH) (k4 : (Int32 × Int32) → Option Int32) (hk4 : ∀ (w : Int32 × Int32), k4 w = some r → ∀ (H : Heap) (locs : List Loc) (ls : Array Slot), zI G K s (zA G K) H locs h → lv_has ls 4 [(0, .ref (G.1 a0)), (2, .int w.1), (3, .int w.2)] → W p l e (zR 0) s m args below meth c H locs 0 0 (MQ below (zQi G K r h) args s 0 0 (zA G K)) (F0 m 4 ls [])) (u : Int32 × Int32) (hm : g_Model_stepsTo_4 a0 h k4 u = some r) {H : Heap} {locs : List Loc} {ls : Array Slot} (hI : zI G K s (zA G K) H locs h) (hl : lv_has ls 4 [(0, .ref (G.1 a0)), (2, .int u.1), (3, .int u.2)]) : W p l e (zR 0) s m args below meth c H locs 0 0 (MQ below (zQi G K r h) args s 0 0 (zA G K)) (F0 m 4 ls []) := by
  obtain ⟨hx, hb, hml, hown, hts, hr, hlocks, hK, hST, hNs⟩ := id X
  unfold g_Model_stepsTo_4 at hm
  refine lv_aload_n hx hb d_Model_stepsTo_4 rfl (lv_at hl 0 rfl) ?_
  obtain ⟨v5, hv, hm⟩ := zbd hm
  refine z_getR X hI F_Model_49 hv d_Model_stepsTo_5 ?_
  refine lv_iload_n hx hb d_Model_stepsTo_8 rfl (lv_at hl 2 rfl) ?_
  obtain ⟨v9, hv, hm⟩ := zbd hm
  refine z_iald X hI hv d_Model_stepsTo_9 ?_
  refine lv_if_lt (tgt := 26) hx hb d_Model_stepsTo_10 (by decide) (fun hc10 => ?_) (fun hc10 => ?_)
  · replace hm := zif_t hc10 hm
    refine lv_iload_n hx hb d_Model_stepsTo_26 rfl (lv_at hl 1 rfl) ?_
    obtain rfl := zs1 hm
    exact z_iret X hI d_Model_stepsTo_27
  · replace hm := zif_f hc10 hm
    refine lv_iinc (v := (u.1 + (nI 1))) (lv' := [(2, .int (u.1 + (nI 1))), (0, .ref (G.1 a0)), (3, .int u.2)]) hx hb d_Model_stepsTo_13 hl (k := 1) rfl (congrArg (fun z => u.1 + z) (show Int32.ofInt (1) = (nI 1) by decide)) (by decide) rfl (fun ls hl => ?_)
    refine lv_aload_n hx hb d_Model_stepsTo_16 rfl (lv_at hl 1 rfl) ?_
    obtain ⟨v17, hv, hm⟩ := zbd hm
    refine z_getR X hI F_Model_49 hv d_Model_stepsTo_17 ?_
    refine lv_iload_n hx hb d_Model_stepsTo_20 rfl (lv_at hl 2 rfl) ?_
    obtain ⟨v21, hv, hm⟩ := zbd hm
    refine z_iald X hI hv d_Model_stepsTo_21 ?_
    refine lv_istore_n (lv' := [(3, .int v21), (2, .int (u.1 + (nI 1))), (0, .ref (G.1 a0))]) hx hb d_Model_stepsTo_22 rfl hl (by decide) rfl (fun ls hl => ?_)
    refine lv_goto (tgt := 4) hx hb d_Model_stepsTo_23 (by decide) ?_
    obtain ⟨g0, e0⟩ : ∃ z, z = (u.1 + (nI 1)) := ⟨_, rfl⟩
    rw [← e0] at hm hl
    exact hk4 (g0, v21) hm _ _ _ hI (lv_sub hl [2, 1, 0] rfl)
theorem r_Model_stepsTo_4 {p : Program} {l : Launch} {e : Env} {s : State} {m : MethodId} {args : Array Value} {below : List Frame} {meth : Method} {c : Code} {G : zG} {K : Nat} (X : zX p s m args meth c "AllHomeModel" prog_9_method_55_code 4 (some .int) G (zA G K)) {r : Int32} (a0 : Nat) (h : zH) : ∀ (n : Nat) (w : Int32 × Int32), zloop (g_Model_stepsTo_4 a0 h) n w = some r → ∀ (H : Heap) (locs : List Loc) (ls : Array Slot), zI G K s (zA G K) H locs h → lv_has ls 4 [(0, .ref (G.1 a0)), (2, .int w.1), (3, .int w.2)] → W p l e (zR 0) s m args below meth c H locs 0 0 (MQ below (zQi G K r h) args s 0 0 (zA G K)) (F0 m 4 ls []) := by
  intro n
  induction n with
  | zero => intro w hm; cases hm
  | succ n ih => intro w hm H locs ls hI hl; exact r_Model_stepsTo_4_b X a0 h (zloop (g_Model_stepsTo_4 a0 h) n) ih w (zls hm) hI hl
set_option maxHeartbeats 4000000 in
set_option maxRecDepth 100000 in
theorem r_Model_stepsTo_0 {p : Program} {l : Launch} {e : Env} {s : State} {m : MethodId} {args : Array Value} {below : List Frame} {meth : Method} {c : Code} {G : zG} {K : Nat} (X : zX p s m args meth c "AllHomeModel" prog_9_method_55_code 4 (some .int) G (zA G K)) {r : Int32} (a0 : Nat) (x1 : Int32) (h : zH) (hm : m_Model_stepsTo a0 x1 h = some r) {H : Heap} {locs : List Loc} {ls : Array Slot} (hI : zI G K s (zA G K) H locs h) (hl : lv_has ls 4 [(0, .ref (G.1 a0)), (1, .int x1)]) : W p l e (zR 0) s m args below meth c H locs 0 0 (MQ below (zQi G K r h) args s 0 0 (zA G K)) (F0 m 0 ls []) := by
  obtain ⟨hx, hb, hml, hown, hts, hr, hlocks, hK, hST, hNs⟩ := id X
  unfold m_Model_stepsTo at hm
  refine lv_iconst (v := (nI 0)) hx hb d_Model_stepsTo_0 (by decide) ?_
  refine lv_istore_n (lv' := [(2, .int (nI 0)), (0, .ref (G.1 a0)), (1, .int x1)]) hx hb d_Model_stepsTo_1 rfl hl (by decide) rfl (fun ls hl => ?_)
  refine lv_iload_n hx hb d_Model_stepsTo_2 rfl (lv_at hl 2 rfl) ?_
  refine lv_istore_n (lv' := [(3, .int x1), (2, .int (nI 0)), (0, .ref (G.1 a0)), (1, .int x1)]) hx hb d_Model_stepsTo_3 rfl hl (by decide) rfl (fun ls hl => ?_)
  exact r_Model_stepsTo_4 X a0 h zN ((nI 0), x1) hm _ _ _ hI (lv_sub hl [2, 1, 0] rfl)
set_option maxHeartbeats 4000000 in
set_option maxRecDepth 100000 in
theorem c_Model_stepsTo (l : Launch) (G : zG) (K : Nat) (a0 : Nat) (x1 : Int32) (h : zH) (r : Int32) (hm : m_Model_stepsTo a0 x1 h = some r) : zMi l G K y_Model_stepsTo prog_9_method_55_code 4 0 [.ref (G.1 a0), .int x1] h r h := zMet (by decide +kernel) (Nat.le_of_ble_eq_true rfl) (fun p e s m below meth c ls X hI hl => r_Model_stepsTo_0 X a0 x1 h hm hI hl)
-- walk of AllHomeModel.least
theorem d_Model_least_0 : decode prog_9_method_56_code 0 = .ok (.aload_n 0, 1) := by decide +kernel
theorem d_Model_least_1 : decode prog_9_method_56_code 1 = .ok (.iload_n 1, 1) := by decide +kernel
theorem d_Model_least_2 : decode prog_9_method_56_code 2 = .ok (.invokevirtual 128, 3) := by decide +kernel
theorem d_Model_least_5 : decode prog_9_method_56_code 5 = .ok (.ifCond .eq 18, 3) := by decide +kernel
theorem d_Model_least_8 : decode prog_9_method_56_code 8 = .ok (.iload_n 2, 1) := by decide +kernel
theorem d_Model_least_9 : decode prog_9_method_56_code 9 = .ok (.i2l, 1) := by decide +kernel
theorem d_Model_least_10 : decode prog_9_method_56_code 10 = .ok (.lconst 0, 1) := by decide +kernel
theorem d_Model_least_11 : decode prog_9_method_56_code 11 = .ok (.lconst 1, 1) := by decide +kernel
theorem d_Model_least_12 : decode prog_9_method_56_code 12 = .ok (.invokestatic 87, 3) := by decide +kernel
theorem d_Model_least_15 : decode prog_9_method_56_code 15 = .ok (.ifCond .eq 8, 3) := by decide +kernel
theorem d_Model_least_18 : decode prog_9_method_56_code 18 = .ok (.iload_n 3, 1) := by decide +kernel
theorem d_Model_least_19 : decode prog_9_method_56_code 19 = .ok (.iconst (-1), 1) := by decide +kernel
theorem d_Model_least_20 : decode prog_9_method_56_code 20 = .ok (.if_icmp .ge 5, 3) := by decide +kernel
theorem d_Model_least_23 : decode prog_9_method_56_code 23 = .ok (.iconst (-1), 1) := by decide +kernel
theorem d_Model_least_24 : decode prog_9_method_56_code 24 = .ok (.ireturn, 1) := by decide +kernel
theorem d_Model_least_25 : decode prog_9_method_56_code 25 = .ok (.aload_n 0, 1) := by decide +kernel
theorem d_Model_least_26 : decode prog_9_method_56_code 26 = .ok (.iload_n 1, 1) := by decide +kernel
theorem d_Model_least_27 : decode prog_9_method_56_code 27 = .ok (.invokevirtual 252, 3) := by decide +kernel
theorem d_Model_least_30 : decode prog_9_method_56_code 30 = .ok (.istore 4, 2) := by decide +kernel
theorem d_Model_least_32 : decode prog_9_method_56_code 32 = .ok (.iload 4, 2) := by decide +kernel
theorem d_Model_least_34 : decode prog_9_method_56_code 34 = .ok (.ifCond .ge 6, 3) := by decide +kernel
theorem d_Model_least_37 : decode prog_9_method_56_code 37 = .ok (.iload 4, 2) := by decide +kernel
theorem d_Model_least_39 : decode prog_9_method_56_code 39 = .ok (.ireturn, 1) := by decide +kernel
theorem d_Model_least_40 : decode prog_9_method_56_code 40 = .ok (.iconst 0, 1) := by decide +kernel
theorem d_Model_least_41 : decode prog_9_method_56_code 41 = .ok (.istore 5, 2) := by decide +kernel
theorem d_Model_least_43 : decode prog_9_method_56_code 43 = .ok (.iconst 0, 1) := by decide +kernel
theorem d_Model_least_44 : decode prog_9_method_56_code 44 = .ok (.istore 6, 2) := by decide +kernel
theorem d_Model_least_46 : decode prog_9_method_56_code 46 = .ok (.iload 6, 2) := by decide +kernel
theorem d_Model_least_48 : decode prog_9_method_56_code 48 = .ok (.ifCond .ne 71, 3) := by decide +kernel
theorem d_Model_least_51 : decode prog_9_method_56_code 51 = .ok (.iload 5, 2) := by decide +kernel
theorem d_Model_least_53 : decode prog_9_method_56_code 53 = .ok (.aload_n 0, 1) := by decide +kernel
theorem d_Model_least_54 : decode prog_9_method_56_code 54 = .ok (.getfield 234, 3) := by decide +kernel
theorem d_Model_least_57 : decode prog_9_method_56_code 57 = .ok (.if_icmp .ge 62, 3) := by decide +kernel
theorem d_Model_least_60 : decode prog_9_method_56_code 60 = .ok (.aload_n 0, 1) := by decide +kernel
theorem d_Model_least_61 : decode prog_9_method_56_code 61 = .ok (.iload 5, 2) := by decide +kernel
theorem d_Model_least_63 : decode prog_9_method_56_code 63 = .ok (.invokevirtual 237, 3) := by decide +kernel
theorem d_Model_least_66 : decode prog_9_method_56_code 66 = .ok (.aload_n 0, 1) := by decide +kernel
theorem d_Model_least_67 : decode prog_9_method_56_code 67 = .ok (.getfield 22, 3) := by decide +kernel
theorem d_Model_least_70 : decode prog_9_method_56_code 70 = .ok (.bipush 87, 2) := by decide +kernel
theorem d_Model_least_72 : decode prog_9_method_56_code 72 = .ok (.iaload, 1) := by decide +kernel
theorem d_Model_least_73 : decode prog_9_method_56_code 73 = .ok (.iconst 1, 1) := by decide +kernel
theorem d_Model_least_74 : decode prog_9_method_56_code 74 = .ok (.if_icmp .ne 24, 3) := by decide +kernel
theorem d_Model_least_77 : decode prog_9_method_56_code 77 = .ok (.aload_n 0, 1) := by decide +kernel
theorem d_Model_least_78 : decode prog_9_method_56_code 78 = .ok (.invokevirtual 216, 3) := by decide +kernel
theorem d_Model_least_81 : decode prog_9_method_56_code 81 = .ok (.iload_n 2, 1) := by decide +kernel
theorem d_Model_least_82 : decode prog_9_method_56_code 82 = .ok (.iconst 1, 1) := by decide +kernel
theorem d_Model_least_83 : decode prog_9_method_56_code 83 = .ok (.if_icmp .ne 7, 3) := by decide +kernel
theorem d_Model_least_86 : decode prog_9_method_56_code 86 = .ok (.iconst 1, 1) := by decide +kernel
theorem d_Model_least_87 : decode prog_9_method_56_code 87 = .ok (.goto 4, 3) := by decide +kernel
theorem d_Model_least_90 : decode prog_9_method_56_code 90 = .ok (.iconst 0, 1) := by decide +kernel
theorem d_Model_least_91 : decode prog_9_method_56_code 91 = .ok (.if_icmp .ne 7, 3) := by decide +kernel
theorem d_Model_least_94 : decode prog_9_method_56_code 94 = .ok (.iconst 1, 1) := by decide +kernel
theorem d_Model_least_95 : decode prog_9_method_56_code 95 = .ok (.goto 4, 3) := by decide +kernel
theorem d_Model_least_98 : decode prog_9_method_56_code 98 = .ok (.iconst 0, 1) := by decide +kernel
theorem d_Model_least_99 : decode prog_9_method_56_code 99 = .ok (.istore 6, 2) := by decide +kernel
theorem d_Model_least_101 : decode prog_9_method_56_code 101 = .ok (.iload 5, 2) := by decide +kernel
theorem d_Model_least_103 : decode prog_9_method_56_code 103 = .ok (.iload 6, 2) := by decide +kernel
theorem d_Model_least_105 : decode prog_9_method_56_code 105 = .ok (.ifCond .eq 7, 3) := by decide +kernel
theorem d_Model_least_108 : decode prog_9_method_56_code 108 = .ok (.iconst 0, 1) := by decide +kernel
theorem d_Model_least_109 : decode prog_9_method_56_code 109 = .ok (.goto 4, 3) := by decide +kernel
theorem d_Model_least_112 : decode prog_9_method_56_code 112 = .ok (.iconst 1, 1) := by decide +kernel
theorem d_Model_least_113 : decode prog_9_method_56_code 113 = .ok (.iadd, 1) := by decide +kernel
theorem d_Model_least_114 : decode prog_9_method_56_code 114 = .ok (.istore 5, 2) := by decide +kernel
theorem d_Model_least_116 : decode prog_9_method_56_code 116 = .ok (.goto (-70), 3) := by decide +kernel
theorem d_Model_least_119 : decode prog_9_method_56_code 119 = .ok (.iload 6, 2) := by decide +kernel
theorem d_Model_least_121 : decode prog_9_method_56_code 121 = .ok (.ifCond .ne 6, 3) := by decide +kernel
theorem d_Model_least_124 : decode prog_9_method_56_code 124 = .ok (.bipush (-2), 2) := by decide +kernel
theorem d_Model_least_126 : decode prog_9_method_56_code 126 = .ok (.ireturn, 1) := by decide +kernel
theorem d_Model_least_127 : decode prog_9_method_56_code 127 = .ok (.aload_n 0, 1) := by decide +kernel
theorem d_Model_least_128 : decode prog_9_method_56_code 128 = .ok (.iload 5, 2) := by decide +kernel
theorem d_Model_least_130 : decode prog_9_method_56_code 130 = .ok (.invokevirtual 255, 3) := by decide +kernel
theorem d_Model_least_133 : decode prog_9_method_56_code 133 = .ok (.istore 7, 2) := by decide +kernel
theorem d_Model_least_135 : decode prog_9_method_56_code 135 = .ok (.iload_n 3, 1) := by decide +kernel
theorem d_Model_least_136 : decode prog_9_method_56_code 136 = .ok (.ifCond .ge 6, 3) := by decide +kernel
theorem d_Model_least_139 : decode prog_9_method_56_code 139 = .ok (.iload 7, 2) := by decide +kernel
theorem d_Model_least_141 : decode prog_9_method_56_code 141 = .ok (.ireturn, 1) := by decide +kernel
theorem d_Model_least_142 : decode prog_9_method_56_code 142 = .ok (.iload_n 3, 1) := by decide +kernel
theorem d_Model_least_143 : decode prog_9_method_56_code 143 = .ok (.iload 7, 2) := by decide +kernel
theorem d_Model_least_145 : decode prog_9_method_56_code 145 = .ok (.if_icmp .lt 5, 3) := by decide +kernel
theorem d_Model_least_148 : decode prog_9_method_56_code 148 = .ok (.iconst (-1), 1) := by decide +kernel
theorem d_Model_least_149 : decode prog_9_method_56_code 149 = .ok (.ireturn, 1) := by decide +kernel
theorem d_Model_least_150 : decode prog_9_method_56_code 150 = .ok (.iload 7, 2) := by decide +kernel
theorem d_Model_least_152 : decode prog_9_method_56_code 152 = .ok (.iconst 1, 1) := by decide +kernel
theorem d_Model_least_153 : decode prog_9_method_56_code 153 = .ok (.isub, 1) := by decide +kernel
theorem d_Model_least_154 : decode prog_9_method_56_code 154 = .ok (.istore 8, 2) := by decide +kernel
theorem d_Model_least_156 : decode prog_9_method_56_code 156 = .ok (.iload 8, 2) := by decide +kernel
theorem d_Model_least_158 : decode prog_9_method_56_code 158 = .ok (.iload_n 3, 1) := by decide +kernel
theorem d_Model_least_159 : decode prog_9_method_56_code 159 = .ok (.if_icmp .le 18, 3) := by decide +kernel
theorem d_Model_least_162 : decode prog_9_method_56_code 162 = .ok (.aload_n 0, 1) := by decide +kernel
theorem d_Model_least_163 : decode prog_9_method_56_code 163 = .ok (.getfield 49, 3) := by decide +kernel
theorem d_Model_least_166 : decode prog_9_method_56_code 166 = .ok (.iload 5, 2) := by decide +kernel
theorem d_Model_least_168 : decode prog_9_method_56_code 168 = .ok (.iaload, 1) := by decide +kernel
theorem d_Model_least_169 : decode prog_9_method_56_code 169 = .ok (.istore 5, 2) := by decide +kernel
theorem d_Model_least_171 : decode prog_9_method_56_code 171 = .ok (.iinc 8 (-1), 3) := by decide +kernel
theorem d_Model_least_174 : decode prog_9_method_56_code 174 = .ok (.goto (-18), 3) := by decide +kernel
theorem d_Model_least_177 : decode prog_9_method_56_code 177 = .ok (.aload_n 0, 1) := by decide +kernel
theorem d_Model_least_178 : decode prog_9_method_56_code 178 = .ok (.getfield 52, 3) := by decide +kernel
theorem d_Model_least_181 : decode prog_9_method_56_code 181 = .ok (.iload 5, 2) := by decide +kernel
theorem d_Model_least_183 : decode prog_9_method_56_code 183 = .ok (.iaload, 1) := by decide +kernel
theorem d_Model_least_184 : decode prog_9_method_56_code 184 = .ok (.ireturn, 1) := by decide +kernel
set_option maxHeartbeats 4000000 in
set_option maxRecDepth 100000 in
theorem r_Model_least_156_b {p : Program} {l : Launch} {e : Env} {s : State} {m : MethodId} {args : Array Value} {below : List Frame} {meth : Method} {c : Code} {G : zG} {K : Nat} (X : zX p s m args meth c "AllHomeModel" prog_9_method_56_code 9 (some .int) G (zA G K)) {r : Int32} {h' : zH} (a0 : Nat) (x3 : Int32) (h : zH) (k156 : (Int32 × Int32) → Option (Int32 × zH)) (hk156 : ∀ (w : Int32 × Int32), k156 w = some (r, h') → ∀ (H : Heap) (locs : List Loc) (ls : Array Slot), zI G K s (zA G K) H locs h → lv_has ls 9 [(0, .ref (G.1 a0)), (3, .int x3), (5, .int w.1), (8, .int w.2)] → W p l e (zR 8) s m args below meth c H locs 0 0 (MQ below (zQi G K r h') args s 0 0 (zA G K)) (F0 m 156 ls [])) (u : Int32 × Int32) (hm : g_Model_least_156 a0 x3 h k156 u = some (r, h')) {H : Heap} {locs : List Loc} {ls : Array Slot} (hI : zI G K s (zA G K) H locs h) (hl : lv_has ls 9 [(0, .ref (G.1 a0)), (3, .int x3), (5, .int u.1), (8, .int u.2)]) : W p l e (zR 8) s m args below meth c H locs 0 0 (MQ below (zQi G K r h') args s 0 0 (zA G K)) (F0 m 156 ls []) := by
  obtain ⟨hx, hb, hml, hown, hts, hr, hlocks, hK, hST, hNs⟩ := id X
  unfold g_Model_least_156 at hm
  refine lv_iload hx hb d_Model_least_156 (lv_at hl 3 rfl) ?_
  refine lv_iload_n hx hb d_Model_least_158 rfl (lv_at hl 1 rfl) ?_
  refine lv_icmp_le (tgt := 177) hx hb d_Model_least_159 (by decide) (fun hc159 => ?_) (fun hc159 => ?_)
  · replace hm := zif_t hc159 hm
    refine lv_aload_n hx hb d_Model_least_177 rfl (lv_at hl 0 rfl) ?_
    obtain ⟨v178, hv, hm⟩ := zbd hm
    refine z_getR X hI F_Model_52 hv d_Model_least_178 ?_
    refine lv_iload hx hb d_Model_least_181 (lv_at hl 2 rfl) ?_
    obtain ⟨v183, hv, hm⟩ := zbd hm
    refine z_iald X hI hv d_Model_least_183 ?_
    obtain ⟨rfl, rfl⟩ := zs2 hm
    exact z_iret X hI d_Model_least_184
  · replace hm := zif_f hc159 hm
    refine lv_aload_n hx hb d_Model_least_162 rfl (lv_at hl 0 rfl) ?_
    obtain ⟨v163, hv, hm⟩ := zbd hm
    refine z_getR X hI F_Model_49 hv d_Model_least_163 ?_
    refine lv_iload hx hb d_Model_least_166 (lv_at hl 2 rfl) ?_
    obtain ⟨v168, hv, hm⟩ := zbd hm
    refine z_iald X hI hv d_Model_least_168 ?_
    refine lv_istore (lv' := [(5, .int v168), (0, .ref (G.1 a0)), (3, .int x3), (8, .int u.2)]) hx hb d_Model_least_169 hl (by decide) rfl (fun ls hl => ?_)
    refine lv_iinc (v := (u.2 + (-1 : Int32))) (lv' := [(8, .int (u.2 + (-1 : Int32))), (5, .int v168), (0, .ref (G.1 a0)), (3, .int x3)]) hx hb d_Model_least_171 hl (k := 3) rfl (congrArg (fun z => u.2 + z) (show Int32.ofInt (-1) = (-1 : Int32) by decide)) (by decide) rfl (fun ls hl => ?_)
    refine lv_goto (tgt := 156) hx hb d_Model_least_174 (by decide) ?_
    obtain ⟨g1, e1⟩ : ∃ z, z = (u.2 + (-1 : Int32)) := ⟨_, rfl⟩
    rw [← e1] at hm hl
    exact hk156 (v168, g1) hm _ _ _ hI (lv_sub hl [2, 3, 1, 0] rfl)
theorem r_Model_least_156 {p : Program} {l : Launch} {e : Env} {s : State} {m : MethodId} {args : Array Value} {below : List Frame} {meth : Method} {c : Code} {G : zG} {K : Nat} (X : zX p s m args meth c "AllHomeModel" prog_9_method_56_code 9 (some .int) G (zA G K)) {r : Int32} {h' : zH} (a0 : Nat) (x3 : Int32) (h : zH) : ∀ (n : Nat) (w : Int32 × Int32), zloop (g_Model_least_156 a0 x3 h) n w = some (r, h') → ∀ (H : Heap) (locs : List Loc) (ls : Array Slot), zI G K s (zA G K) H locs h → lv_has ls 9 [(0, .ref (G.1 a0)), (3, .int x3), (5, .int w.1), (8, .int w.2)] → W p l e (zR 8) s m args below meth c H locs 0 0 (MQ below (zQi G K r h') args s 0 0 (zA G K)) (F0 m 156 ls []) := by
  intro n
  induction n with
  | zero => intro w hm; cases hm
  | succ n ih => intro w hm H locs ls hI hl; exact r_Model_least_156_b X a0 x3 h (zloop (g_Model_least_156 a0 x3 h) n) ih w (zls hm) hI hl
set_option maxHeartbeats 4000000 in
set_option maxRecDepth 100000 in
theorem r_Model_least_119 {p : Program} {l : Launch} {e : Env} {s : State} {m : MethodId} {args : Array Value} {below : List Frame} {meth : Method} {c : Code} {G : zG} {K : Nat} (X : zX p s m args meth c "AllHomeModel" prog_9_method_56_code 9 (some .int) G (zA G K)) {r : Int32} {h' : zH} (a0 : Nat) (x3 : Int32) (x5 : Int32) (x6 : Int32) (h : zH) (hm : g_Model_least_119 a0 x3 x5 x6 h = some (r, h')) {H : Heap} {locs : List Loc} {ls : Array Slot} (hI : zI G K s (zA G K) H locs h) (hl : lv_has ls 9 [(0, .ref (G.1 a0)), (3, .int x3), (5, .int x5), (6, .int x6)]) : W p l e (zR 8) s m args below meth c H locs 0 0 (MQ below (zQi G K r h') args s 0 0 (zA G K)) (F0 m 119 ls []) := by
  obtain ⟨hx, hb, hml, hown, hts, hr, hlocks, hK, hST, hNs⟩ := id X
  unfold g_Model_least_119 at hm
  refine lv_iload hx hb d_Model_least_119 (lv_at hl 3 rfl) ?_
  refine lv_if_ne (tgt := 127) hx hb d_Model_least_121 (by decide) (fun hc121 => ?_) (fun hc121 => ?_)
  · replace hm := zif_f hc121 hm
    refine lv_aload_n hx hb d_Model_least_127 rfl (lv_at hl 0 rfl) ?_
    refine lv_iload hx hb d_Model_least_128 (lv_at hl 2 rfl) ?_
    obtain ⟨v130, hv, hm⟩ := zbd hm
    obtain ⟨hq, hv⟩ := zcv_at hv
    refine z_ci hI (z_runV (As := [.int x5]) (rest := []) X hI hl.1 (c_Model_stepsTo l G K a0 x5 h _ hv) C_Model_255 rfl hq (Nat.le_of_ble_eq_true rfl) ⟨Nat.le_of_ble_eq_true rfl, Nat.le_of_ble_eq_true rfl, Nat.zero_le _, Nat.zero_le _⟩ rfl d_Model_least_130) (fun H locs hI => ?_)
    refine lv_istore (lv' := [(7, .int v130), (0, .ref (G.1 a0)), (3, .int x3), (5, .int x5), (6, .int x6)]) hx hb d_Model_least_133 hl (by decide) rfl (fun ls hl => ?_)
    refine lv_iload_n hx hb d_Model_least_135 rfl (lv_at hl 2 rfl) ?_
    refine lv_if_ge (tgt := 142) hx hb d_Model_least_136 (by decide) (fun hc136 => ?_) (fun hc136 => ?_)
    · replace hm := zif_t hc136 hm
      refine lv_iload_n hx hb d_Model_least_142 rfl (lv_at hl 2 rfl) ?_
      refine lv_iload hx hb d_Model_least_143 (lv_at hl 0 rfl) ?_
      refine lv_icmp_lt (tgt := 150) hx hb d_Model_least_145 (by decide) (fun hc145 => ?_) (fun hc145 => ?_)
      · replace hm := zif_t hc145 hm
        refine lv_iload hx hb d_Model_least_150 (lv_at hl 0 rfl) ?_
        refine lv_iconst (v := (nI 1)) hx hb d_Model_least_152 (by decide) ?_
        refine lv_isub hx hb d_Model_least_153 ?_
        refine lv_istore (lv' := [(8, .int (v130 - (nI 1))), (7, .int v130), (0, .ref (G.1 a0)), (3, .int x3), (5, .int x5), (6, .int x6)]) hx hb d_Model_least_154 hl (by decide) rfl (fun ls hl => ?_)
        obtain ⟨g1, e1⟩ : ∃ z, z = (v130 - (nI 1)) := ⟨_, rfl⟩
        rw [← e1] at hm hl
        exact r_Model_least_156 X a0 x3 h zN (x5, g1) hm _ _ _ hI (lv_sub hl [2, 3, 4, 0] rfl)
      · replace hm := zif_f hc145 hm
        refine lv_iconst (v := (-1 : Int32)) hx hb d_Model_least_148 (by decide) ?_
        obtain ⟨rfl, rfl⟩ := zs2 hm
        exact z_iret X hI d_Model_least_149
    · replace hm := zif_f hc136 hm
      refine lv_iload hx hb d_Model_least_139 (lv_at hl 0 rfl) ?_
      obtain ⟨rfl, rfl⟩ := zs2 hm
      exact z_iret X hI d_Model_least_141
  · replace hm := zif_t hc121 hm
    refine lv_bipush (v := (-2 : Int32)) hx hb d_Model_least_124 (by decide) ?_
    obtain ⟨rfl, rfl⟩ := zs2 hm
    exact z_iret X hI d_Model_least_126
set_option maxHeartbeats 4000000 in
set_option maxRecDepth 100000 in
theorem r_Model_least_99 {p : Program} {l : Launch} {e : Env} {s : State} {m : MethodId} {args : Array Value} {below : List Frame} {meth : Method} {c : Code} {G : zG} {K : Nat} (X : zX p s m args meth c "AllHomeModel" prog_9_method_56_code 9 (some .int) G (zA G K)) {r : Int32} {h' : zH} (a0 : Nat) (x2 : Int32) (x3 : Int32) (x5 : Int32) (y0 : Int32) (h : zH) (k46 : (Int32 × Int32 × zH) → Option (Int32 × zH)) (hk46 : ∀ (w : Int32 × Int32 × zH), k46 w = some (r, h') → ∀ (H : Heap) (locs : List Loc) (ls : Array Slot), zI G K s (zA G K) H locs w.2.2 → lv_has ls 9 [(0, .ref (G.1 a0)), (2, .int x2), (3, .int x3), (5, .int w.1), (6, .int w.2.1)] → W p l e (zR 8) s m args below meth c H locs 0 0 (MQ below (zQi G K r h') args s 0 0 (zA G K)) (F0 m 46 ls [])) (hm : g_Model_least_99 a0 x2 x3 x5 y0 h k46 = some (r, h')) {H : Heap} {locs : List Loc} {ls : Array Slot} (hI : zI G K s (zA G K) H locs h) (hl : lv_has ls 9 [(0, .ref (G.1 a0)), (2, .int x2), (3, .int x3), (5, .int x5)]) : W p l e (zR 8) s m args below meth c H locs 0 0 (MQ below (zQi G K r h') args s 0 0 (zA G K)) (F0 m 99 ls [.int y0]) := by
  obtain ⟨hx, hb, hml, hown, hts, hr, hlocks, hK, hST, hNs⟩ := id X
  unfold g_Model_least_99 at hm
  refine lv_istore (lv' := [(6, .int y0), (0, .ref (G.1 a0)), (2, .int x2), (3, .int x3), (5, .int x5)]) hx hb d_Model_least_99 hl (by decide) rfl (fun ls hl => ?_)
  refine lv_iload hx hb d_Model_least_101 (lv_at hl 4 rfl) ?_
  refine lv_iload hx hb d_Model_least_103 (lv_at hl 0 rfl) ?_
  refine lv_if_eq (tgt := 112) hx hb d_Model_least_105 (by decide) (fun hc105 => ?_) (fun hc105 => ?_)
  · replace hm := zif_t hc105 hm
    refine lv_iconst (v := (nI 1)) hx hb d_Model_least_112 (by decide) ?_
    refine lv_iadd hx hb d_Model_least_113 ?_
    refine lv_istore (lv' := [(5, .int (x5 + (nI 1))), (6, .int y0), (0, .ref (G.1 a0)), (2, .int x2), (3, .int x3)]) hx hb d_Model_least_114 hl (by decide) rfl (fun ls hl => ?_)
    refine lv_goto (tgt := 46) hx hb d_Model_least_116 (by decide) ?_
    obtain ⟨g0, e0⟩ : ∃ z, z = (x5 + (nI 1)) := ⟨_, rfl⟩
    rw [← e0] at hm hl
    exact hk46 (g0, y0, h) hm _ _ _ hI (lv_sub hl [2, 3, 4, 0, 1] rfl)
  · replace hm := zif_f hc105 hm
    refine lv_iconst (v := (nI 0)) hx hb d_Model_least_108 (by decide) ?_
    refine lv_goto (tgt := 113) hx hb d_Model_least_109 (by decide) ?_
    refine lv_iadd hx hb d_Model_least_113 ?_
    refine lv_istore (lv' := [(5, .int (x5 + (nI 0))), (6, .int y0), (0, .ref (G.1 a0)), (2, .int x2), (3, .int x3)]) hx hb d_Model_least_114 hl (by decide) rfl (fun ls hl => ?_)
    refine lv_goto (tgt := 46) hx hb d_Model_least_116 (by decide) ?_
    obtain ⟨g0, e0⟩ : ∃ z, z = (x5 + (nI 0)) := ⟨_, rfl⟩
    rw [← e0] at hm hl
    exact hk46 (g0, y0, h) hm _ _ _ hI (lv_sub hl [2, 3, 4, 0, 1] rfl)
set_option maxHeartbeats 4000000 in
set_option maxRecDepth 100000 in
theorem r_Model_least_46_b {p : Program} {l : Launch} {e : Env} {s : State} {m : MethodId} {args : Array Value} {below : List Frame} {meth : Method} {c : Code} {G : zG} {K : Nat} (X : zX p s m args meth c "AllHomeModel" prog_9_method_56_code 9 (some .int) G (zA G K)) {r : Int32} {h' : zH} (a0 : Nat) (x2 : Int32) (x3 : Int32) (k46 : (Int32 × Int32 × zH) → Option (Int32 × zH)) (hk46 : ∀ (w : Int32 × Int32 × zH), k46 w = some (r, h') → ∀ (H : Heap) (locs : List Loc) (ls : Array Slot), zI G K s (zA G K) H locs w.2.2 → lv_has ls 9 [(0, .ref (G.1 a0)), (2, .int x2), (3, .int x3), (5, .int w.1), (6, .int w.2.1)] → W p l e (zR 8) s m args below meth c H locs 0 0 (MQ below (zQi G K r h') args s 0 0 (zA G K)) (F0 m 46 ls [])) (u : Int32 × Int32 × zH) (hm : g_Model_least_46 a0 x2 x3 k46 u = some (r, h')) {H : Heap} {locs : List Loc} {ls : Array Slot} (hI : zI G K s (zA G K) H locs u.2.2) (hl : lv_has ls 9 [(0, .ref (G.1 a0)), (2, .int x2), (3, .int x3), (5, .int u.1), (6, .int u.2.1)]) : W p l e (zR 8) s m args below meth c H locs 0 0 (MQ below (zQi G K r h') args s 0 0 (zA G K)) (F0 m 46 ls []) := by
  obtain ⟨hx, hb, hml, hown, hts, hr, hlocks, hK, hST, hNs⟩ := id X
  unfold g_Model_least_46 at hm
  refine lv_iload hx hb d_Model_least_46 (lv_at hl 4 rfl) ?_
  refine lv_if_ne (tgt := 119) hx hb d_Model_least_48 (by decide) (fun hc48 => ?_) (fun hc48 => ?_)
  · replace hm := zif_f hc48 hm
    exact r_Model_least_119 X a0 x3 u.1 u.2.1 u.2.2 hm hI (lv_sub hl [0, 2, 3, 4] rfl)
  · replace hm := zif_t hc48 hm
    refine lv_iload hx hb d_Model_least_51 (lv_at hl 3 rfl) ?_
    refine lv_aload_n hx hb d_Model_least_53 rfl (lv_at hl 0 rfl) ?_
    obtain ⟨v54, hv, hm⟩ := zbd hm
    refine z_getI X hI F_Model_234 hv d_Model_least_54 ?_
    refine lv_icmp_ge (tgt := 119) hx hb d_Model_least_57 (by decide) (fun hc57 => ?_) (fun hc57 => ?_)
    · replace hm := zif_t hc57 hm
      exact r_Model_least_119 X a0 x3 u.1 u.2.1 u.2.2 hm hI (lv_sub hl [0, 2, 3, 4] rfl)
    · replace hm := zif_f hc57 hm
      refine lv_aload_n hx hb d_Model_least_60 rfl (lv_at hl 0 rfl) ?_
      refine lv_iload hx hb d_Model_least_61 (lv_at hl 3 rfl) ?_
      obtain ⟨h63, hv, hm⟩ := zbd hm
      obtain ⟨hq, hv⟩ := zcv_at hv
      refine z_cv hI (z_runV (As := [.int u.1]) (rest := []) X hI hl.1 (c_Model_bringBack l G K a0 u.1 u.2.2 _ hv) C_Model_237 rfl hq (Nat.le_of_ble_eq_true rfl) ⟨Nat.le_of_ble_eq_true rfl, Nat.le_of_ble_eq_true rfl, Nat.zero_le _, Nat.zero_le _⟩ rfl d_Model_least_63) (fun H locs hI => ?_)
      refine lv_aload_n hx hb d_Model_least_66 rfl (lv_at hl 0 rfl) ?_
      obtain ⟨v67, hv, hm⟩ := zbd hm
      refine z_getR X hI F_Model_22 hv d_Model_least_67 ?_
      refine lv_bipush (v := (nI 87)) hx hb d_Model_least_70 (by decide) ?_
      obtain ⟨v72, hv, hm⟩ := zbd hm
      refine z_iald X hI hv d_Model_least_72 ?_
      refine lv_iconst (v := (nI 1)) hx hb d_Model_least_73 (by decide) ?_
      refine lv_icmp_ne (tgt := 98) hx hb d_Model_least_74 (by decide) (fun hc74 => ?_) (fun hc74 => ?_)
      · replace hm := zif_f hc74 hm
        refine lv_iconst (v := (nI 0)) hx hb d_Model_least_98 (by decide) ?_
        exact r_Model_least_99 X a0 x2 x3 u.1 (nI 0) h63 k46 hk46 hm hI (lv_sub hl [0, 1, 2, 3] rfl)
      · replace hm := zif_t hc74 hm
        refine lv_aload_n hx hb d_Model_least_77 rfl (lv_at hl 0 rfl) ?_
        obtain ⟨v78, hv, hm⟩ := zbd hm
        obtain ⟨hq, hv⟩ := zcv_at hv
        refine z_ci hI (z_runV (As := []) (rest := []) X hI hl.1 (c_Model_isOver l G K a0 h63 _ hv) C_Model_216 rfl hq (Nat.le_of_ble_eq_true rfl) ⟨Nat.le_of_ble_eq_true rfl, Nat.le_of_ble_eq_true rfl, Nat.zero_le _, Nat.zero_le _⟩ rfl d_Model_least_78) (fun H locs hI => ?_)
        refine lv_iload_n hx hb d_Model_least_81 rfl (lv_at hl 1 rfl) ?_
        refine lv_iconst (v := (nI 1)) hx hb d_Model_least_82 (by decide) ?_
        refine lv_icmp_ne (tgt := 90) hx hb d_Model_least_83 (by decide) (fun hc83 => ?_) (fun hc83 => ?_)
        · replace hm := zif_f hc83 hm
          refine lv_iconst (v := (nI 0)) hx hb d_Model_least_90 (by decide) ?_
          refine lv_icmp_ne (tgt := 98) hx hb d_Model_least_91 (by decide) (fun hc91 => ?_) (fun hc91 => ?_)
          · replace hm := zif_f hc91 hm
            refine lv_iconst (v := (nI 0)) hx hb d_Model_least_98 (by decide) ?_
            exact r_Model_least_99 X a0 x2 x3 u.1 (nI 0) h63 k46 hk46 hm hI (lv_sub hl [0, 1, 2, 3] rfl)
          · replace hm := zif_t hc91 hm
            refine lv_iconst (v := (nI 1)) hx hb d_Model_least_94 (by decide) ?_
            refine lv_goto (tgt := 99) hx hb d_Model_least_95 (by decide) ?_
            exact r_Model_least_99 X a0 x2 x3 u.1 (nI 1) h63 k46 hk46 hm hI (lv_sub hl [0, 1, 2, 3] rfl)
        · replace hm := zif_t hc83 hm
          refine lv_iconst (v := (nI 1)) hx hb d_Model_least_86 (by decide) ?_
          refine lv_goto (tgt := 91) hx hb d_Model_least_87 (by decide) ?_
          refine lv_icmp_ne (tgt := 98) hx hb d_Model_least_91 (by decide) (fun hc91 => ?_) (fun hc91 => ?_)
          · replace hm := zif_f hc91 hm
            refine lv_iconst (v := (nI 0)) hx hb d_Model_least_98 (by decide) ?_
            exact r_Model_least_99 X a0 x2 x3 u.1 (nI 0) h63 k46 hk46 hm hI (lv_sub hl [0, 1, 2, 3] rfl)
          · replace hm := zif_t hc91 hm
            refine lv_iconst (v := (nI 1)) hx hb d_Model_least_94 (by decide) ?_
            refine lv_goto (tgt := 99) hx hb d_Model_least_95 (by decide) ?_
            exact r_Model_least_99 X a0 x2 x3 u.1 (nI 1) h63 k46 hk46 hm hI (lv_sub hl [0, 1, 2, 3] rfl)
theorem r_Model_least_46 {p : Program} {l : Launch} {e : Env} {s : State} {m : MethodId} {args : Array Value} {below : List Frame} {meth : Method} {c : Code} {G : zG} {K : Nat} (X : zX p s m args meth c "AllHomeModel" prog_9_method_56_code 9 (some .int) G (zA G K)) {r : Int32} {h' : zH} (a0 : Nat) (x2 : Int32) (x3 : Int32) : ∀ (n : Nat) (w : Int32 × Int32 × zH), zloop (g_Model_least_46 a0 x2 x3) n w = some (r, h') → ∀ (H : Heap) (locs : List Loc) (ls : Array Slot), zI G K s (zA G K) H locs w.2.2 → lv_has ls 9 [(0, .ref (G.1 a0)), (2, .int x2), (3, .int x3), (5, .int w.1), (6, .int w.2.1)] → W p l e (zR 8) s m args below meth c H locs 0 0 (MQ below (zQi G K r h') args s 0 0 (zA G K)) (F0 m 46 ls []) := by
  intro n
  induction n with
  | zero => intro w hm; cases hm
  | succ n ih => intro w hm H locs ls hI hl; exact r_Model_least_46_b X a0 x2 x3 (zloop (g_Model_least_46 a0 x2 x3) n) ih w (zls hm) hI hl
set_option maxHeartbeats 4000000 in
set_option maxRecDepth 100000 in
theorem r_Model_least_0 {p : Program} {l : Launch} {e : Env} {s : State} {m : MethodId} {args : Array Value} {below : List Frame} {meth : Method} {c : Code} {G : zG} {K : Nat} (X : zX p s m args meth c "AllHomeModel" prog_9_method_56_code 9 (some .int) G (zA G K)) {r : Int32} {h' : zH} (a0 : Nat) (x1 : Int32) (x2 : Int32) (x3 : Int32) (h : zH) (hm : m_Model_least a0 x1 x2 x3 h = some (r, h')) {H : Heap} {locs : List Loc} {ls : Array Slot} (hI : zI G K s (zA G K) H locs h) (hl : lv_has ls 9 [(0, .ref (G.1 a0)), (1, .int x1), (2, .int x2), (3, .int x3)]) : W p l e (zR 8) s m args below meth c H locs 0 0 (MQ below (zQi G K r h') args s 0 0 (zA G K)) (F0 m 0 ls []) := by
  obtain ⟨hx, hb, hml, hown, hts, hr, hlocks, hK, hST, hNs⟩ := id X
  unfold m_Model_least at hm
  refine lv_aload_n hx hb d_Model_least_0 rfl (lv_at hl 0 rfl) ?_
  refine lv_iload_n hx hb d_Model_least_1 rfl (lv_at hl 1 rfl) ?_
  obtain ⟨v2, hv, hm⟩ := zbd hm
  obtain ⟨hq, hv⟩ := zcv_at hv
  refine z_ci hI (z_runV (As := [.int x1]) (rest := []) X hI hl.1 (c_Model_isWay l G K a0 x1 h _ hv) C_Model_128 rfl hq (Nat.le_of_ble_eq_true rfl) ⟨Nat.le_of_ble_eq_true rfl, Nat.le_of_ble_eq_true rfl, Nat.zero_le _, Nat.zero_le _⟩ rfl d_Model_least_2) (fun H locs hI => ?_)
  refine lv_if_eq (tgt := 23) hx hb d_Model_least_5 (by decide) (fun hc5 => ?_) (fun hc5 => ?_)
  · replace hm := zif_t hc5 hm
    refine lv_iconst (v := (-1 : Int32)) hx hb d_Model_least_23 (by decide) ?_
    obtain ⟨rfl, rfl⟩ := zs2 hm
    exact z_iret X hI d_Model_least_24
  · replace hm := zif_f hc5 hm
    refine lv_iload_n hx hb d_Model_least_8 rfl (lv_at hl 2 rfl) ?_
    refine lv_i2l hx hb d_Model_least_9 rfl ?_
    refine lv_lconst (v := 0) hx hb d_Model_least_10 (by decide) ?_
    refine lv_lconst (v := 1) hx hb d_Model_least_11 (by decide) ?_
    obtain ⟨v12, hv, hm⟩ := zbd hm
    refine z_ci hI (z_runS (As := [.long x2.toInt64, .long (0 : Int64), .long (1 : Int64)]) (rest := []) X hI hl.1 (c_Model_within l G K x2.toInt64 (0 : Int64) (1 : Int64) h _ hv) C_Model_87 rfl (Nat.le_of_ble_eq_true rfl) ⟨Nat.le_of_ble_eq_true rfl, Nat.le_of_ble_eq_true rfl, Nat.zero_le _, Nat.zero_le _⟩ rfl d_Model_least_12) (fun H locs hI => ?_)
    refine lv_if_eq (tgt := 23) hx hb d_Model_least_15 (by decide) (fun hc15 => ?_) (fun hc15 => ?_)
    · replace hm := zif_t hc15 hm
      refine lv_iconst (v := (-1 : Int32)) hx hb d_Model_least_23 (by decide) ?_
      obtain ⟨rfl, rfl⟩ := zs2 hm
      exact z_iret X hI d_Model_least_24
    · replace hm := zif_f hc15 hm
      refine lv_iload_n hx hb d_Model_least_18 rfl (lv_at hl 3 rfl) ?_
      refine lv_iconst (v := (-1 : Int32)) hx hb d_Model_least_19 (by decide) ?_
      refine lv_icmp_ge (tgt := 25) hx hb d_Model_least_20 (by decide) (fun hc20 => ?_) (fun hc20 => ?_)
      · replace hm := zif_t hc20 hm
        refine lv_aload_n hx hb d_Model_least_25 rfl (lv_at hl 0 rfl) ?_
        refine lv_iload_n hx hb d_Model_least_26 rfl (lv_at hl 1 rfl) ?_
        obtain ⟨v27, h27, hv, hm⟩ := zb2_at hm
        obtain ⟨hq, hv⟩ := zcv_at hv
        refine z_ci hI (z_runV (As := [.int x1]) (rest := []) X hI hl.1 (c_Model_noOrders l G K a0 x1 h _ _ hv) C_Model_252 rfl hq (Nat.le_of_ble_eq_true rfl) ⟨Nat.le_of_ble_eq_true rfl, Nat.le_of_ble_eq_true rfl, Nat.zero_le _, Nat.zero_le _⟩ rfl d_Model_least_27) (fun H locs hI => ?_)
        refine lv_istore (lv' := [(4, .int v27), (0, .ref (G.1 a0)), (1, .int x1), (2, .int x2), (3, .int x3)]) hx hb d_Model_least_30 hl (by decide) rfl (fun ls hl => ?_)
        refine lv_iload hx hb d_Model_least_32 (lv_at hl 0 rfl) ?_
        refine lv_if_ge (tgt := 40) hx hb d_Model_least_34 (by decide) (fun hc34 => ?_) (fun hc34 => ?_)
        · replace hm := zif_t hc34 hm
          refine lv_iconst (v := (nI 0)) hx hb d_Model_least_40 (by decide) ?_
          refine lv_istore (lv' := [(5, .int (nI 0)), (4, .int v27), (0, .ref (G.1 a0)), (1, .int x1), (2, .int x2), (3, .int x3)]) hx hb d_Model_least_41 hl (by decide) rfl (fun ls hl => ?_)
          refine lv_iconst (v := (nI 0)) hx hb d_Model_least_43 (by decide) ?_
          refine lv_istore (lv' := [(6, .int (nI 0)), (5, .int (nI 0)), (4, .int v27), (0, .ref (G.1 a0)), (1, .int x1), (2, .int x2), (3, .int x3)]) hx hb d_Model_least_44 hl (by decide) rfl (fun ls hl => ?_)
          exact r_Model_least_46 X a0 x2 x3 zN ((nI 0), (nI 0), h27) hm _ _ _ hI (lv_sub hl [3, 5, 6, 1, 0] rfl)
        · replace hm := zif_f hc34 hm
          refine lv_iload hx hb d_Model_least_37 (lv_at hl 0 rfl) ?_
          obtain ⟨rfl, rfl⟩ := zs2 hm
          exact z_iret X hI d_Model_least_39
      · replace hm := zif_f hc20 hm
        refine lv_iconst (v := (-1 : Int32)) hx hb d_Model_least_23 (by decide) ?_
        obtain ⟨rfl, rfl⟩ := zs2 hm
        exact z_iret X hI d_Model_least_24
set_option maxHeartbeats 4000000 in
set_option maxRecDepth 100000 in
theorem c_Model_least (l : Launch) (G : zG) (K : Nat) (a0 : Nat) (x1 : Int32) (x2 : Int32) (x3 : Int32) (h : zH) (r : Int32) (h' : zH) (hm : m_Model_least a0 x1 x2 x3 h = some (r, h')) : zMi l G K y_Model_least prog_9_method_56_code 9 8 [.ref (G.1 a0), .int x1, .int x2, .int x3] h r h' := zMet (by decide +kernel) (Nat.le_of_ble_eq_true rfl) (fun p e s m below meth c ls X hI hl => r_Model_least_0 X a0 x1 x2 x3 h hm hI hl)
