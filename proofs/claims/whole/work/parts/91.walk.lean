-- walk of AllHomeModel.stuck
theorem d_Model_stuck_0 : decode prog_9_method_57_code 0 = .ok (.aload_n 0, 1) := by decide +kernel
theorem d_Model_stuck_1 : decode prog_9_method_57_code 1 = .ok (.iload_n 1, 1) := by decide +kernel
theorem d_Model_stuck_2 : decode prog_9_method_57_code 2 = .ok (.invokevirtual 252, 3) := by decide +kernel
theorem d_Model_stuck_5 : decode prog_9_method_57_code 5 = .ok (.istore_n 2, 1) := by decide +kernel
theorem d_Model_stuck_6 : decode prog_9_method_57_code 6 = .ok (.iload_n 2, 1) := by decide +kernel
theorem d_Model_stuck_7 : decode prog_9_method_57_code 7 = .ok (.ifCond .ge 5, 3) := by decide +kernel
theorem d_Model_stuck_10 : decode prog_9_method_57_code 10 = .ok (.iload_n 2, 1) := by decide +kernel
theorem d_Model_stuck_11 : decode prog_9_method_57_code 11 = .ok (.ireturn, 1) := by decide +kernel
theorem d_Model_stuck_12 : decode prog_9_method_57_code 12 = .ok (.iconst 0, 1) := by decide +kernel
theorem d_Model_stuck_13 : decode prog_9_method_57_code 13 = .ok (.istore_n 3, 1) := by decide +kernel
theorem d_Model_stuck_14 : decode prog_9_method_57_code 14 = .ok (.iload_n 3, 1) := by decide +kernel
theorem d_Model_stuck_15 : decode prog_9_method_57_code 15 = .ok (.aload_n 0, 1) := by decide +kernel
theorem d_Model_stuck_16 : decode prog_9_method_57_code 16 = .ok (.getfield 234, 3) := by decide +kernel
theorem d_Model_stuck_19 : decode prog_9_method_57_code 19 = .ok (.if_icmp .ge 36, 3) := by decide +kernel
theorem d_Model_stuck_22 : decode prog_9_method_57_code 22 = .ok (.aload_n 0, 1) := by decide +kernel
theorem d_Model_stuck_23 : decode prog_9_method_57_code 23 = .ok (.getfield 55, 3) := by decide +kernel
theorem d_Model_stuck_26 : decode prog_9_method_57_code 26 = .ok (.iload_n 3, 1) := by decide +kernel
theorem d_Model_stuck_27 : decode prog_9_method_57_code 27 = .ok (.aload_n 0, 1) := by decide +kernel
theorem d_Model_stuck_28 : decode prog_9_method_57_code 28 = .ok (.getfield 46, 3) := by decide +kernel
theorem d_Model_stuck_31 : decode prog_9_method_57_code 31 = .ok (.bipush 91, 2) := by decide +kernel
theorem d_Model_stuck_33 : decode prog_9_method_57_code 33 = .ok (.iload_n 3, 1) := by decide +kernel
theorem d_Model_stuck_34 : decode prog_9_method_57_code 34 = .ok (.imul, 1) := by decide +kernel
theorem d_Model_stuck_35 : decode prog_9_method_57_code 35 = .ok (.bipush 87, 2) := by decide +kernel
theorem d_Model_stuck_37 : decode prog_9_method_57_code 37 = .ok (.iadd, 1) := by decide +kernel
theorem d_Model_stuck_38 : decode prog_9_method_57_code 38 = .ok (.iaload, 1) := by decide +kernel
theorem d_Model_stuck_39 : decode prog_9_method_57_code 39 = .ok (.iconst 1, 1) := by decide +kernel
theorem d_Model_stuck_40 : decode prog_9_method_57_code 40 = .ok (.if_icmp .ne 7, 3) := by decide +kernel
theorem d_Model_stuck_43 : decode prog_9_method_57_code 43 = .ok (.iconst 1, 1) := by decide +kernel
theorem d_Model_stuck_44 : decode prog_9_method_57_code 44 = .ok (.goto 4, 3) := by decide +kernel
theorem d_Model_stuck_47 : decode prog_9_method_57_code 47 = .ok (.iconst 0, 1) := by decide +kernel
theorem d_Model_stuck_48 : decode prog_9_method_57_code 48 = .ok (.bastore, 1) := by decide +kernel
theorem d_Model_stuck_49 : decode prog_9_method_57_code 49 = .ok (.iinc 3 1, 3) := by decide +kernel
theorem d_Model_stuck_52 : decode prog_9_method_57_code 52 = .ok (.goto (-38), 3) := by decide +kernel
theorem d_Model_stuck_55 : decode prog_9_method_57_code 55 = .ok (.iconst 1, 1) := by decide +kernel
theorem d_Model_stuck_56 : decode prog_9_method_57_code 56 = .ok (.istore_n 3, 1) := by decide +kernel
theorem d_Model_stuck_57 : decode prog_9_method_57_code 57 = .ok (.iload_n 3, 1) := by decide +kernel
theorem d_Model_stuck_58 : decode prog_9_method_57_code 58 = .ok (.ifCond .eq 91, 3) := by decide +kernel
theorem d_Model_stuck_61 : decode prog_9_method_57_code 61 = .ok (.iconst 0, 1) := by decide +kernel
theorem d_Model_stuck_62 : decode prog_9_method_57_code 62 = .ok (.istore_n 3, 1) := by decide +kernel
theorem d_Model_stuck_63 : decode prog_9_method_57_code 63 = .ok (.iconst 0, 1) := by decide +kernel
theorem d_Model_stuck_64 : decode prog_9_method_57_code 64 = .ok (.istore 4, 2) := by decide +kernel
theorem d_Model_stuck_66 : decode prog_9_method_57_code 66 = .ok (.iload 4, 2) := by decide +kernel
theorem d_Model_stuck_68 : decode prog_9_method_57_code 68 = .ok (.aload_n 0, 1) := by decide +kernel
theorem d_Model_stuck_69 : decode prog_9_method_57_code 69 = .ok (.getfield 234, 3) := by decide +kernel
theorem d_Model_stuck_72 : decode prog_9_method_57_code 72 = .ok (.if_icmp .ge 74, 3) := by decide +kernel
theorem d_Model_stuck_75 : decode prog_9_method_57_code 75 = .ok (.iconst 0, 1) := by decide +kernel
theorem d_Model_stuck_76 : decode prog_9_method_57_code 76 = .ok (.istore 5, 2) := by decide +kernel
theorem d_Model_stuck_78 : decode prog_9_method_57_code 78 = .ok (.iload 5, 2) := by decide +kernel
theorem d_Model_stuck_80 : decode prog_9_method_57_code 80 = .ok (.aload_n 0, 1) := by decide +kernel
theorem d_Model_stuck_81 : decode prog_9_method_57_code 81 = .ok (.getfield 234, 3) := by decide +kernel
theorem d_Model_stuck_84 : decode prog_9_method_57_code 84 = .ok (.if_icmp .ge 56, 3) := by decide +kernel
theorem d_Model_stuck_87 : decode prog_9_method_57_code 87 = .ok (.aload_n 0, 1) := by decide +kernel
theorem d_Model_stuck_88 : decode prog_9_method_57_code 88 = .ok (.getfield 55, 3) := by decide +kernel
theorem d_Model_stuck_91 : decode prog_9_method_57_code 91 = .ok (.iload 4, 2) := by decide +kernel
theorem d_Model_stuck_93 : decode prog_9_method_57_code 93 = .ok (.baload, 1) := by decide +kernel
theorem d_Model_stuck_94 : decode prog_9_method_57_code 94 = .ok (.ifCond .ne 46, 3) := by decide +kernel
theorem d_Model_stuck_97 : decode prog_9_method_57_code 97 = .ok (.aload_n 0, 1) := by decide +kernel
theorem d_Model_stuck_98 : decode prog_9_method_57_code 98 = .ok (.getfield 59, 3) := by decide +kernel
theorem d_Model_stuck_101 : decode prog_9_method_57_code 101 = .ok (.sipush 151, 3) := by decide +kernel
theorem d_Model_stuck_104 : decode prog_9_method_57_code 104 = .ok (.iload 4, 2) := by decide +kernel
theorem d_Model_stuck_106 : decode prog_9_method_57_code 106 = .ok (.imul, 1) := by decide +kernel
theorem d_Model_stuck_107 : decode prog_9_method_57_code 107 = .ok (.iload 5, 2) := by decide +kernel
theorem d_Model_stuck_109 : decode prog_9_method_57_code 109 = .ok (.iadd, 1) := by decide +kernel
theorem d_Model_stuck_110 : decode prog_9_method_57_code 110 = .ok (.baload, 1) := by decide +kernel
theorem d_Model_stuck_111 : decode prog_9_method_57_code 111 = .ok (.ifCond .eq 23, 3) := by decide +kernel
theorem d_Model_stuck_114 : decode prog_9_method_57_code 114 = .ok (.aload_n 0, 1) := by decide +kernel
theorem d_Model_stuck_115 : decode prog_9_method_57_code 115 = .ok (.getfield 55, 3) := by decide +kernel
theorem d_Model_stuck_118 : decode prog_9_method_57_code 118 = .ok (.iload 5, 2) := by decide +kernel
theorem d_Model_stuck_120 : decode prog_9_method_57_code 120 = .ok (.baload, 1) := by decide +kernel
theorem d_Model_stuck_121 : decode prog_9_method_57_code 121 = .ok (.ifCond .eq 13, 3) := by decide +kernel
theorem d_Model_stuck_124 : decode prog_9_method_57_code 124 = .ok (.aload_n 0, 1) := by decide +kernel
theorem d_Model_stuck_125 : decode prog_9_method_57_code 125 = .ok (.getfield 55, 3) := by decide +kernel
theorem d_Model_stuck_128 : decode prog_9_method_57_code 128 = .ok (.iload 4, 2) := by decide +kernel
theorem d_Model_stuck_130 : decode prog_9_method_57_code 130 = .ok (.iconst 1, 1) := by decide +kernel
theorem d_Model_stuck_131 : decode prog_9_method_57_code 131 = .ok (.bastore, 1) := by decide +kernel
theorem d_Model_stuck_132 : decode prog_9_method_57_code 132 = .ok (.iconst 1, 1) := by decide +kernel
theorem d_Model_stuck_133 : decode prog_9_method_57_code 133 = .ok (.istore_n 3, 1) := by decide +kernel
theorem d_Model_stuck_134 : decode prog_9_method_57_code 134 = .ok (.iinc 5 1, 3) := by decide +kernel
theorem d_Model_stuck_137 : decode prog_9_method_57_code 137 = .ok (.goto (-59), 3) := by decide +kernel
theorem d_Model_stuck_140 : decode prog_9_method_57_code 140 = .ok (.iinc 4 1, 3) := by decide +kernel
theorem d_Model_stuck_143 : decode prog_9_method_57_code 143 = .ok (.goto (-77), 3) := by decide +kernel
theorem d_Model_stuck_146 : decode prog_9_method_57_code 146 = .ok (.goto (-89), 3) := by decide +kernel
theorem d_Model_stuck_149 : decode prog_9_method_57_code 149 = .ok (.iconst 0, 1) := by decide +kernel
theorem d_Model_stuck_150 : decode prog_9_method_57_code 150 = .ok (.istore 4, 2) := by decide +kernel
theorem d_Model_stuck_152 : decode prog_9_method_57_code 152 = .ok (.iconst 0, 1) := by decide +kernel
theorem d_Model_stuck_153 : decode prog_9_method_57_code 153 = .ok (.istore 5, 2) := by decide +kernel
theorem d_Model_stuck_155 : decode prog_9_method_57_code 155 = .ok (.iload 5, 2) := by decide +kernel
theorem d_Model_stuck_157 : decode prog_9_method_57_code 157 = .ok (.aload_n 0, 1) := by decide +kernel
theorem d_Model_stuck_158 : decode prog_9_method_57_code 158 = .ok (.getfield 234, 3) := by decide +kernel
theorem d_Model_stuck_161 : decode prog_9_method_57_code 161 = .ok (.if_icmp .ge 29, 3) := by decide +kernel
theorem d_Model_stuck_164 : decode prog_9_method_57_code 164 = .ok (.iload 4, 2) := by decide +kernel
theorem d_Model_stuck_166 : decode prog_9_method_57_code 166 = .ok (.aload_n 0, 1) := by decide +kernel
theorem d_Model_stuck_167 : decode prog_9_method_57_code 167 = .ok (.getfield 55, 3) := by decide +kernel
theorem d_Model_stuck_170 : decode prog_9_method_57_code 170 = .ok (.iload 5, 2) := by decide +kernel
theorem d_Model_stuck_172 : decode prog_9_method_57_code 172 = .ok (.baload, 1) := by decide +kernel
theorem d_Model_stuck_173 : decode prog_9_method_57_code 173 = .ok (.ifCond .eq 7, 3) := by decide +kernel
theorem d_Model_stuck_176 : decode prog_9_method_57_code 176 = .ok (.iconst 0, 1) := by decide +kernel
theorem d_Model_stuck_177 : decode prog_9_method_57_code 177 = .ok (.goto 4, 3) := by decide +kernel
theorem d_Model_stuck_180 : decode prog_9_method_57_code 180 = .ok (.iconst 1, 1) := by decide +kernel
theorem d_Model_stuck_181 : decode prog_9_method_57_code 181 = .ok (.iadd, 1) := by decide +kernel
theorem d_Model_stuck_182 : decode prog_9_method_57_code 182 = .ok (.istore 4, 2) := by decide +kernel
theorem d_Model_stuck_184 : decode prog_9_method_57_code 184 = .ok (.iinc 5 1, 3) := by decide +kernel
theorem d_Model_stuck_187 : decode prog_9_method_57_code 187 = .ok (.goto (-32), 3) := by decide +kernel
theorem d_Model_stuck_190 : decode prog_9_method_57_code 190 = .ok (.iload 4, 2) := by decide +kernel
theorem d_Model_stuck_192 : decode prog_9_method_57_code 192 = .ok (.ireturn, 1) := by decide +kernel
set_option maxHeartbeats 4000000 in
set_option maxRecDepth 100000 in
theorem r_Model_stuck_155_b {p : Program} {l : Launch} {e : Env} {s : State} {m : MethodId} {args : Array Value} {below : List Frame} {meth : Method} {c : Code} {G : zG} {K : Nat} (X : zX p s m args meth c "AllHomeModel" prog_9_method_57_code 6 (some .int) G (zA G K)) {r : Int32} {h' : zH} (a0 : Nat) (h : zH) (k155 : (Int32 × Int32) → Option (Int32 × zH)) (hk155 : ∀ (w : Int32 × Int32), k155 w = some (r, h') → ∀ (H : Heap) (locs : List Loc) (ls : Array Slot), zI G K s (zA G K) H locs h → lv_has ls 6 [(0, .ref (G.1 a0)), (4, .int w.1), (5, .int w.2)] → W p l e (zR 8) s m args below meth c H locs 0 0 (MQ below (zQi G K r h') args s 0 0 (zA G K)) (F0 m 155 ls [])) (u : Int32 × Int32) (hm : g_Model_stuck_155 a0 h k155 u = some (r, h')) {H : Heap} {locs : List Loc} {ls : Array Slot} (hI : zI G K s (zA G K) H locs h) (hl : lv_has ls 6 [(0, .ref (G.1 a0)), (4, .int u.1), (5, .int u.2)]) : W p l e (zR 8) s m args below meth c H locs 0 0 (MQ below (zQi G K r h') args s 0 0 (zA G K)) (F0 m 155 ls []) := by
  obtain ⟨hx, hb, hml, hown, hts, hr, hlocks, hK, hST, hNs⟩ := id X
  unfold g_Model_stuck_155 at hm
  refine lv_iload hx hb d_Model_stuck_155 (lv_at hl 2 rfl) ?_
  refine lv_aload_n hx hb d_Model_stuck_157 rfl (lv_at hl 0 rfl) ?_
  obtain ⟨v158, hv, hm⟩ := zbd hm
  refine z_getI X hI F_Model_234 hv d_Model_stuck_158 ?_
  refine lv_icmp_ge (tgt := 190) hx hb d_Model_stuck_161 (by decide) (fun hc161 => ?_) (fun hc161 => ?_)
  · replace hm := zif_t hc161 hm
    refine lv_iload hx hb d_Model_stuck_190 (lv_at hl 1 rfl) ?_
    obtain ⟨rfl, rfl⟩ := zs2 hm
    exact z_iret X hI d_Model_stuck_192
  · replace hm := zif_f hc161 hm
    refine lv_iload hx hb d_Model_stuck_164 (lv_at hl 1 rfl) ?_
    refine lv_aload_n hx hb d_Model_stuck_166 rfl (lv_at hl 0 rfl) ?_
    obtain ⟨v167, hv, hm⟩ := zbd hm
    refine z_getR X hI F_Model_55 hv d_Model_stuck_167 ?_
    refine lv_iload hx hb d_Model_stuck_170 (lv_at hl 2 rfl) ?_
    obtain ⟨v172, hv, hm⟩ := zbd hm
    refine z_zald X hI hv d_Model_stuck_172 ?_
    refine lv_if_eq (tgt := 180) hx hb d_Model_stuck_173 (by decide) (fun hc173 => ?_) (fun hc173 => ?_)
    · replace hm := zif_t hc173 hm
      refine lv_iconst (v := (nI 1)) hx hb d_Model_stuck_180 (by decide) ?_
      refine lv_iadd hx hb d_Model_stuck_181 ?_
      refine lv_istore (lv' := [(4, .int (u.1 + (nI 1))), (0, .ref (G.1 a0)), (5, .int u.2)]) hx hb d_Model_stuck_182 hl (by decide) rfl (fun ls hl => ?_)
      refine lv_iinc (v := (u.2 + (nI 1))) (lv' := [(5, .int (u.2 + (nI 1))), (4, .int (u.1 + (nI 1))), (0, .ref (G.1 a0))]) hx hb d_Model_stuck_184 hl (k := 2) rfl (congrArg (fun z => u.2 + z) (show Int32.ofInt (1) = (nI 1) by decide)) (by decide) rfl (fun ls hl => ?_)
      refine lv_goto (tgt := 155) hx hb d_Model_stuck_187 (by decide) ?_
      obtain ⟨g0, e0⟩ : ∃ z, z = (u.1 + (nI 1)) := ⟨_, rfl⟩
      rw [← e0] at hm hl
      obtain ⟨g1, e1⟩ : ∃ z, z = (u.2 + (nI 1)) := ⟨_, rfl⟩
      rw [← e1] at hm hl
      exact hk155 (g0, g1) hm _ _ _ hI (lv_sub hl [2, 1, 0] rfl)
    · replace hm := zif_f hc173 hm
      refine lv_iconst (v := (nI 0)) hx hb d_Model_stuck_176 (by decide) ?_
      refine lv_goto (tgt := 181) hx hb d_Model_stuck_177 (by decide) ?_
      refine lv_iadd hx hb d_Model_stuck_181 ?_
      refine lv_istore (lv' := [(4, .int (u.1 + (nI 0))), (0, .ref (G.1 a0)), (5, .int u.2)]) hx hb d_Model_stuck_182 hl (by decide) rfl (fun ls hl => ?_)
      refine lv_iinc (v := (u.2 + (nI 1))) (lv' := [(5, .int (u.2 + (nI 1))), (4, .int (u.1 + (nI 0))), (0, .ref (G.1 a0))]) hx hb d_Model_stuck_184 hl (k := 2) rfl (congrArg (fun z => u.2 + z) (show Int32.ofInt (1) = (nI 1) by decide)) (by decide) rfl (fun ls hl => ?_)
      refine lv_goto (tgt := 155) hx hb d_Model_stuck_187 (by decide) ?_
      obtain ⟨g0, e0⟩ : ∃ z, z = (u.1 + (nI 0)) := ⟨_, rfl⟩
      rw [← e0] at hm hl
      obtain ⟨g1, e1⟩ : ∃ z, z = (u.2 + (nI 1)) := ⟨_, rfl⟩
      rw [← e1] at hm hl
      exact hk155 (g0, g1) hm _ _ _ hI (lv_sub hl [2, 1, 0] rfl)
theorem r_Model_stuck_155 {p : Program} {l : Launch} {e : Env} {s : State} {m : MethodId} {args : Array Value} {below : List Frame} {meth : Method} {c : Code} {G : zG} {K : Nat} (X : zX p s m args meth c "AllHomeModel" prog_9_method_57_code 6 (some .int) G (zA G K)) {r : Int32} {h' : zH} (a0 : Nat) (h : zH) : ∀ (n : Nat) (w : Int32 × Int32), zloop (g_Model_stuck_155 a0 h) n w = some (r, h') → ∀ (H : Heap) (locs : List Loc) (ls : Array Slot), zI G K s (zA G K) H locs h → lv_has ls 6 [(0, .ref (G.1 a0)), (4, .int w.1), (5, .int w.2)] → W p l e (zR 8) s m args below meth c H locs 0 0 (MQ below (zQi G K r h') args s 0 0 (zA G K)) (F0 m 155 ls []) := by
  intro n
  induction n with
  | zero => intro w hm; cases hm
  | succ n ih => intro w hm H locs ls hI hl; exact r_Model_stuck_155_b X a0 h (zloop (g_Model_stuck_155 a0 h) n) ih w (zls hm) hI hl
set_option maxHeartbeats 4000000 in
set_option maxRecDepth 100000 in
theorem r_Model_stuck_78_b {p : Program} {l : Launch} {e : Env} {s : State} {m : MethodId} {args : Array Value} {below : List Frame} {meth : Method} {c : Code} {G : zG} {K : Nat} (X : zX p s m args meth c "AllHomeModel" prog_9_method_57_code 6 (some .int) G (zA G K)) {r : Int32} {h' : zH} (a0 : Nat) (x4 : Int32) (k57 : (Int32 × zH) → Option (Int32 × zH)) (hk57 : ∀ (w : Int32 × zH), k57 w = some (r, h') → ∀ (H : Heap) (locs : List Loc) (ls : Array Slot), zI G K s (zA G K) H locs w.2 → lv_has ls 6 [(0, .ref (G.1 a0)), (3, .int w.1)] → W p l e (zR 8) s m args below meth c H locs 0 0 (MQ below (zQi G K r h') args s 0 0 (zA G K)) (F0 m 57 ls [])) (k66 : (Int32 × Int32 × zH) → Option (Int32 × zH)) (hk66 : ∀ (w : Int32 × Int32 × zH), k66 w = some (r, h') → ∀ (H : Heap) (locs : List Loc) (ls : Array Slot), zI G K s (zA G K) H locs w.2.2 → lv_has ls 6 [(0, .ref (G.1 a0)), (3, .int w.1), (4, .int w.2.1)] → W p l e (zR 8) s m args below meth c H locs 0 0 (MQ below (zQi G K r h') args s 0 0 (zA G K)) (F0 m 66 ls [])) (k78 : (Int32 × Int32 × zH) → Option (Int32 × zH)) (hk78 : ∀ (w : Int32 × Int32 × zH), k78 w = some (r, h') → ∀ (H : Heap) (locs : List Loc) (ls : Array Slot), zI G K s (zA G K) H locs w.2.2 → lv_has ls 6 [(0, .ref (G.1 a0)), (3, .int w.1), (4, .int x4), (5, .int w.2.1)] → W p l e (zR 8) s m args below meth c H locs 0 0 (MQ below (zQi G K r h') args s 0 0 (zA G K)) (F0 m 78 ls [])) (u : Int32 × Int32 × zH) (hm : g_Model_stuck_78 a0 x4 k57 k66 k78 u = some (r, h')) {H : Heap} {locs : List Loc} {ls : Array Slot} (hI : zI G K s (zA G K) H locs u.2.2) (hl : lv_has ls 6 [(0, .ref (G.1 a0)), (3, .int u.1), (4, .int x4), (5, .int u.2.1)]) : W p l e (zR 8) s m args below meth c H locs 0 0 (MQ below (zQi G K r h') args s 0 0 (zA G K)) (F0 m 78 ls []) := by
  obtain ⟨hx, hb, hml, hown, hts, hr, hlocks, hK, hST, hNs⟩ := id X
  unfold g_Model_stuck_78 at hm
  refine lv_iload hx hb d_Model_stuck_78 (lv_at hl 3 rfl) ?_
  refine lv_aload_n hx hb d_Model_stuck_80 rfl (lv_at hl 0 rfl) ?_
  obtain ⟨v81, hv, hm⟩ := zbd hm
  refine z_getI X hI F_Model_234 hv d_Model_stuck_81 ?_
  refine lv_icmp_ge (tgt := 140) hx hb d_Model_stuck_84 (by decide) (fun hc84 => ?_) (fun hc84 => ?_)
  · replace hm := zif_t hc84 hm
    refine lv_iinc (v := (x4 + (nI 1))) (lv' := [(4, .int (x4 + (nI 1))), (0, .ref (G.1 a0)), (3, .int u.1), (5, .int u.2.1)]) hx hb d_Model_stuck_140 hl (k := 2) rfl (congrArg (fun z => x4 + z) (show Int32.ofInt (1) = (nI 1) by decide)) (by decide) rfl (fun ls hl => ?_)
    refine lv_goto (tgt := 66) hx hb d_Model_stuck_143 (by decide) ?_
    obtain ⟨g0, e0⟩ : ∃ z, z = u.1 := ⟨_, rfl⟩
    rw [← e0] at hm hl
    obtain ⟨g1, e1⟩ : ∃ z, z = (x4 + (nI 1)) := ⟨_, rfl⟩
    rw [← e1] at hm hl
    obtain ⟨g2, e2⟩ : ∃ z, z = u.2.2 := ⟨_, rfl⟩
    rw [← e2] at hm hI
    exact hk66 (g0, g1, g2) hm _ _ _ hI (lv_sub hl [1, 2, 0] rfl)
  · replace hm := zif_f hc84 hm
    refine lv_aload_n hx hb d_Model_stuck_87 rfl (lv_at hl 0 rfl) ?_
    obtain ⟨v88, hv, hm⟩ := zbd hm
    refine z_getR X hI F_Model_55 hv d_Model_stuck_88 ?_
    refine lv_iload hx hb d_Model_stuck_91 (lv_at hl 2 rfl) ?_
    obtain ⟨v93, hv, hm⟩ := zbd hm
    refine z_zald X hI hv d_Model_stuck_93 ?_
    refine lv_if_ne (tgt := 140) hx hb d_Model_stuck_94 (by decide) (fun hc94 => ?_) (fun hc94 => ?_)
    · replace hm := zif_f hc94 hm
      refine lv_iinc (v := (x4 + (nI 1))) (lv' := [(4, .int (x4 + (nI 1))), (0, .ref (G.1 a0)), (3, .int u.1), (5, .int u.2.1)]) hx hb d_Model_stuck_140 hl (k := 2) rfl (congrArg (fun z => x4 + z) (show Int32.ofInt (1) = (nI 1) by decide)) (by decide) rfl (fun ls hl => ?_)
      refine lv_goto (tgt := 66) hx hb d_Model_stuck_143 (by decide) ?_
      obtain ⟨g0, e0⟩ : ∃ z, z = u.1 := ⟨_, rfl⟩
      rw [← e0] at hm hl
      obtain ⟨g1, e1⟩ : ∃ z, z = (x4 + (nI 1)) := ⟨_, rfl⟩
      rw [← e1] at hm hl
      obtain ⟨g2, e2⟩ : ∃ z, z = u.2.2 := ⟨_, rfl⟩
      rw [← e2] at hm hI
      exact hk66 (g0, g1, g2) hm _ _ _ hI (lv_sub hl [1, 2, 0] rfl)
    · replace hm := zif_t hc94 hm
      refine lv_aload_n hx hb d_Model_stuck_97 rfl (lv_at hl 0 rfl) ?_
      obtain ⟨v98, hv, hm⟩ := zbd hm
      refine z_getR X hI F_Model_59 hv d_Model_stuck_98 ?_
      refine lv_sipush (v := (nI 151)) hx hb d_Model_stuck_101 (by decide) ?_
      refine lv_iload hx hb d_Model_stuck_104 (lv_at hl 2 rfl) ?_
      refine lv_imul hx hb d_Model_stuck_106 ?_
      refine lv_iload hx hb d_Model_stuck_107 (lv_at hl 3 rfl) ?_
      refine lv_iadd hx hb d_Model_stuck_109 ?_
      obtain ⟨v110, hv, hm⟩ := zbd hm
      refine z_zald X hI hv d_Model_stuck_110 ?_
      refine lv_if_eq (tgt := 134) hx hb d_Model_stuck_111 (by decide) (fun hc111 => ?_) (fun hc111 => ?_)
      · replace hm := zif_t hc111 hm
        refine lv_iinc (v := (u.2.1 + (nI 1))) (lv' := [(5, .int (u.2.1 + (nI 1))), (0, .ref (G.1 a0)), (3, .int u.1), (4, .int x4)]) hx hb d_Model_stuck_134 hl (k := 3) rfl (congrArg (fun z => u.2.1 + z) (show Int32.ofInt (1) = (nI 1) by decide)) (by decide) rfl (fun ls hl => ?_)
        refine lv_goto (tgt := 78) hx hb d_Model_stuck_137 (by decide) ?_
        obtain ⟨g0, e0⟩ : ∃ z, z = u.1 := ⟨_, rfl⟩
        rw [← e0] at hm hl
        obtain ⟨g1, e1⟩ : ∃ z, z = (u.2.1 + (nI 1)) := ⟨_, rfl⟩
        rw [← e1] at hm hl
        obtain ⟨g2, e2⟩ : ∃ z, z = u.2.2 := ⟨_, rfl⟩
        rw [← e2] at hm hI
        exact hk78 (g0, g1, g2) hm _ _ _ hI (lv_sub hl [1, 2, 3, 0] rfl)
      · replace hm := zif_f hc111 hm
        refine lv_aload_n hx hb d_Model_stuck_114 rfl (lv_at hl 0 rfl) ?_
        obtain ⟨v115, hv, hm⟩ := zbd hm
        refine z_getR X hI F_Model_55 hv d_Model_stuck_115 ?_
        refine lv_iload hx hb d_Model_stuck_118 (lv_at hl 3 rfl) ?_
        obtain ⟨v120, hv, hm⟩ := zbd hm
        refine z_zald X hI hv d_Model_stuck_120 ?_
        refine lv_if_eq (tgt := 134) hx hb d_Model_stuck_121 (by decide) (fun hc121 => ?_) (fun hc121 => ?_)
        · replace hm := zif_t hc121 hm
          refine lv_iinc (v := (u.2.1 + (nI 1))) (lv' := [(5, .int (u.2.1 + (nI 1))), (0, .ref (G.1 a0)), (3, .int u.1), (4, .int x4)]) hx hb d_Model_stuck_134 hl (k := 3) rfl (congrArg (fun z => u.2.1 + z) (show Int32.ofInt (1) = (nI 1) by decide)) (by decide) rfl (fun ls hl => ?_)
          refine lv_goto (tgt := 78) hx hb d_Model_stuck_137 (by decide) ?_
          obtain ⟨g0, e0⟩ : ∃ z, z = u.1 := ⟨_, rfl⟩
          rw [← e0] at hm hl
          obtain ⟨g1, e1⟩ : ∃ z, z = (u.2.1 + (nI 1)) := ⟨_, rfl⟩
          rw [← e1] at hm hl
          obtain ⟨g2, e2⟩ : ∃ z, z = u.2.2 := ⟨_, rfl⟩
          rw [← e2] at hm hI
          exact hk78 (g0, g1, g2) hm _ _ _ hI (lv_sub hl [1, 2, 3, 0] rfl)
        · replace hm := zif_f hc121 hm
          refine lv_aload_n hx hb d_Model_stuck_124 rfl (lv_at hl 0 rfl) ?_
          obtain ⟨v125, hv, hm⟩ := zbd hm
          refine z_getR X hI F_Model_55 hv d_Model_stuck_125 ?_
          refine lv_iload hx hb d_Model_stuck_128 (lv_at hl 2 rfl) ?_
          refine lv_iconst (v := (nI 1)) hx hb d_Model_stuck_130 (by decide) ?_
          obtain ⟨h131, hv, hm⟩ := zbd hm
          refine z_zast X hI hv d_Model_stuck_131 (fun H locs hI => ?_)
          refine lv_iconst (v := (nI 1)) hx hb d_Model_stuck_132 (by decide) ?_
          refine lv_istore_n (lv' := [(3, .int (nI 1)), (0, .ref (G.1 a0)), (4, .int x4), (5, .int u.2.1)]) hx hb d_Model_stuck_133 rfl hl (by decide) rfl (fun ls hl => ?_)
          refine lv_iinc (v := (u.2.1 + (nI 1))) (lv' := [(5, .int (u.2.1 + (nI 1))), (3, .int (nI 1)), (0, .ref (G.1 a0)), (4, .int x4)]) hx hb d_Model_stuck_134 hl (k := 3) rfl (congrArg (fun z => u.2.1 + z) (show Int32.ofInt (1) = (nI 1) by decide)) (by decide) rfl (fun ls hl => ?_)
          refine lv_goto (tgt := 78) hx hb d_Model_stuck_137 (by decide) ?_
          obtain ⟨g1, e1⟩ : ∃ z, z = (u.2.1 + (nI 1)) := ⟨_, rfl⟩
          rw [← e1] at hm hl
          exact hk78 ((nI 1), g1, h131) hm _ _ _ hI (lv_sub hl [2, 1, 3, 0] rfl)
theorem r_Model_stuck_78 {p : Program} {l : Launch} {e : Env} {s : State} {m : MethodId} {args : Array Value} {below : List Frame} {meth : Method} {c : Code} {G : zG} {K : Nat} (X : zX p s m args meth c "AllHomeModel" prog_9_method_57_code 6 (some .int) G (zA G K)) {r : Int32} {h' : zH} (a0 : Nat) (x4 : Int32) (k57 : (Int32 × zH) → Option (Int32 × zH)) (hk57 : ∀ (w : Int32 × zH), k57 w = some (r, h') → ∀ (H : Heap) (locs : List Loc) (ls : Array Slot), zI G K s (zA G K) H locs w.2 → lv_has ls 6 [(0, .ref (G.1 a0)), (3, .int w.1)] → W p l e (zR 8) s m args below meth c H locs 0 0 (MQ below (zQi G K r h') args s 0 0 (zA G K)) (F0 m 57 ls [])) (k66 : (Int32 × Int32 × zH) → Option (Int32 × zH)) (hk66 : ∀ (w : Int32 × Int32 × zH), k66 w = some (r, h') → ∀ (H : Heap) (locs : List Loc) (ls : Array Slot), zI G K s (zA G K) H locs w.2.2 → lv_has ls 6 [(0, .ref (G.1 a0)), (3, .int w.1), (4, .int w.2.1)] → W p l e (zR 8) s m args below meth c H locs 0 0 (MQ below (zQi G K r h') args s 0 0 (zA G K)) (F0 m 66 ls [])) : ∀ (n : Nat) (w : Int32 × Int32 × zH), zloop (g_Model_stuck_78 a0 x4 k57 k66) n w = some (r, h') → ∀ (H : Heap) (locs : List Loc) (ls : Array Slot), zI G K s (zA G K) H locs w.2.2 → lv_has ls 6 [(0, .ref (G.1 a0)), (3, .int w.1), (4, .int x4), (5, .int w.2.1)] → W p l e (zR 8) s m args below meth c H locs 0 0 (MQ below (zQi G K r h') args s 0 0 (zA G K)) (F0 m 78 ls []) := by
  intro n
  induction n with
  | zero => intro w hm; cases hm
  | succ n ih => intro w hm H locs ls hI hl; exact r_Model_stuck_78_b X a0 x4 k57 hk57 k66 hk66 (zloop (g_Model_stuck_78 a0 x4 k57 k66) n) ih w (zls hm) hI hl
set_option maxHeartbeats 4000000 in
set_option maxRecDepth 100000 in
theorem r_Model_stuck_66_b {p : Program} {l : Launch} {e : Env} {s : State} {m : MethodId} {args : Array Value} {below : List Frame} {meth : Method} {c : Code} {G : zG} {K : Nat} (X : zX p s m args meth c "AllHomeModel" prog_9_method_57_code 6 (some .int) G (zA G K)) {r : Int32} {h' : zH} (a0 : Nat) (k57 : (Int32 × zH) → Option (Int32 × zH)) (hk57 : ∀ (w : Int32 × zH), k57 w = some (r, h') → ∀ (H : Heap) (locs : List Loc) (ls : Array Slot), zI G K s (zA G K) H locs w.2 → lv_has ls 6 [(0, .ref (G.1 a0)), (3, .int w.1)] → W p l e (zR 8) s m args below meth c H locs 0 0 (MQ below (zQi G K r h') args s 0 0 (zA G K)) (F0 m 57 ls [])) (k66 : (Int32 × Int32 × zH) → Option (Int32 × zH)) (hk66 : ∀ (w : Int32 × Int32 × zH), k66 w = some (r, h') → ∀ (H : Heap) (locs : List Loc) (ls : Array Slot), zI G K s (zA G K) H locs w.2.2 → lv_has ls 6 [(0, .ref (G.1 a0)), (3, .int w.1), (4, .int w.2.1)] → W p l e (zR 8) s m args below meth c H locs 0 0 (MQ below (zQi G K r h') args s 0 0 (zA G K)) (F0 m 66 ls [])) (u : Int32 × Int32 × zH) (hm : g_Model_stuck_66 a0 k57 k66 u = some (r, h')) {H : Heap} {locs : List Loc} {ls : Array Slot} (hI : zI G K s (zA G K) H locs u.2.2) (hl : lv_has ls 6 [(0, .ref (G.1 a0)), (3, .int u.1), (4, .int u.2.1)]) : W p l e (zR 8) s m args below meth c H locs 0 0 (MQ below (zQi G K r h') args s 0 0 (zA G K)) (F0 m 66 ls []) := by
  obtain ⟨hx, hb, hml, hown, hts, hr, hlocks, hK, hST, hNs⟩ := id X
  unfold g_Model_stuck_66 at hm
  refine lv_iload hx hb d_Model_stuck_66 (lv_at hl 2 rfl) ?_
  refine lv_aload_n hx hb d_Model_stuck_68 rfl (lv_at hl 0 rfl) ?_
  obtain ⟨v69, hv, hm⟩ := zbd hm
  refine z_getI X hI F_Model_234 hv d_Model_stuck_69 ?_
  refine lv_icmp_ge (tgt := 146) hx hb d_Model_stuck_72 (by decide) (fun hc72 => ?_) (fun hc72 => ?_)
  · replace hm := zif_t hc72 hm
    refine lv_goto (tgt := 57) hx hb d_Model_stuck_146 (by decide) ?_
    obtain ⟨g0, e0⟩ : ∃ z, z = u.1 := ⟨_, rfl⟩
    rw [← e0] at hm hl
    obtain ⟨g1, e1⟩ : ∃ z, z = u.2.2 := ⟨_, rfl⟩
    rw [← e1] at hm hI
    exact hk57 (g0, g1) hm _ _ _ hI (lv_sub hl [0, 1] rfl)
  · replace hm := zif_f hc72 hm
    refine lv_iconst (v := (nI 0)) hx hb d_Model_stuck_75 (by decide) ?_
    refine lv_istore (lv' := [(5, .int (nI 0)), (0, .ref (G.1 a0)), (3, .int u.1), (4, .int u.2.1)]) hx hb d_Model_stuck_76 hl (by decide) rfl (fun ls hl => ?_)
    obtain ⟨g0, e0⟩ : ∃ z, z = u.1 := ⟨_, rfl⟩
    rw [← e0] at hm hl
    obtain ⟨g2, e2⟩ : ∃ z, z = u.2.2 := ⟨_, rfl⟩
    rw [← e2] at hm hI
    exact r_Model_stuck_78 X a0 u.2.1 k57 hk57 k66 hk66 zN (g0, (nI 0), g2) hm _ _ _ hI (lv_sub hl [1, 2, 3, 0] rfl)
theorem r_Model_stuck_66 {p : Program} {l : Launch} {e : Env} {s : State} {m : MethodId} {args : Array Value} {below : List Frame} {meth : Method} {c : Code} {G : zG} {K : Nat} (X : zX p s m args meth c "AllHomeModel" prog_9_method_57_code 6 (some .int) G (zA G K)) {r : Int32} {h' : zH} (a0 : Nat) (k57 : (Int32 × zH) → Option (Int32 × zH)) (hk57 : ∀ (w : Int32 × zH), k57 w = some (r, h') → ∀ (H : Heap) (locs : List Loc) (ls : Array Slot), zI G K s (zA G K) H locs w.2 → lv_has ls 6 [(0, .ref (G.1 a0)), (3, .int w.1)] → W p l e (zR 8) s m args below meth c H locs 0 0 (MQ below (zQi G K r h') args s 0 0 (zA G K)) (F0 m 57 ls [])) : ∀ (n : Nat) (w : Int32 × Int32 × zH), zloop (g_Model_stuck_66 a0 k57) n w = some (r, h') → ∀ (H : Heap) (locs : List Loc) (ls : Array Slot), zI G K s (zA G K) H locs w.2.2 → lv_has ls 6 [(0, .ref (G.1 a0)), (3, .int w.1), (4, .int w.2.1)] → W p l e (zR 8) s m args below meth c H locs 0 0 (MQ below (zQi G K r h') args s 0 0 (zA G K)) (F0 m 66 ls []) := by
  intro n
  induction n with
  | zero => intro w hm; cases hm
  | succ n ih => intro w hm H locs ls hI hl; exact r_Model_stuck_66_b X a0 k57 hk57 (zloop (g_Model_stuck_66 a0 k57) n) ih w (zls hm) hI hl
set_option maxHeartbeats 4000000 in
set_option maxRecDepth 100000 in
theorem r_Model_stuck_57_b {p : Program} {l : Launch} {e : Env} {s : State} {m : MethodId} {args : Array Value} {below : List Frame} {meth : Method} {c : Code} {G : zG} {K : Nat} (X : zX p s m args meth c "AllHomeModel" prog_9_method_57_code 6 (some .int) G (zA G K)) {r : Int32} {h' : zH} (a0 : Nat) (k57 : (Int32 × zH) → Option (Int32 × zH)) (hk57 : ∀ (w : Int32 × zH), k57 w = some (r, h') → ∀ (H : Heap) (locs : List Loc) (ls : Array Slot), zI G K s (zA G K) H locs w.2 → lv_has ls 6 [(0, .ref (G.1 a0)), (3, .int w.1)] → W p l e (zR 8) s m args below meth c H locs 0 0 (MQ below (zQi G K r h') args s 0 0 (zA G K)) (F0 m 57 ls [])) (u : Int32 × zH) (hm : g_Model_stuck_57 a0 k57 u = some (r, h')) {H : Heap} {locs : List Loc} {ls : Array Slot} (hI : zI G K s (zA G K) H locs u.2) (hl : lv_has ls 6 [(0, .ref (G.1 a0)), (3, .int u.1)]) : W p l e (zR 8) s m args below meth c H locs 0 0 (MQ below (zQi G K r h') args s 0 0 (zA G K)) (F0 m 57 ls []) := by
  obtain ⟨hx, hb, hml, hown, hts, hr, hlocks, hK, hST, hNs⟩ := id X
  unfold g_Model_stuck_57 at hm
  refine lv_iload_n hx hb d_Model_stuck_57 rfl (lv_at hl 1 rfl) ?_
  refine lv_if_eq (tgt := 149) hx hb d_Model_stuck_58 (by decide) (fun hc58 => ?_) (fun hc58 => ?_)
  · replace hm := zif_t hc58 hm
    refine lv_iconst (v := (nI 0)) hx hb d_Model_stuck_149 (by decide) ?_
    refine lv_istore (lv' := [(4, .int (nI 0)), (0, .ref (G.1 a0)), (3, .int u.1)]) hx hb d_Model_stuck_150 hl (by decide) rfl (fun ls hl => ?_)
    refine lv_iconst (v := (nI 0)) hx hb d_Model_stuck_152 (by decide) ?_
    refine lv_istore (lv' := [(5, .int (nI 0)), (4, .int (nI 0)), (0, .ref (G.1 a0)), (3, .int u.1)]) hx hb d_Model_stuck_153 hl (by decide) rfl (fun ls hl => ?_)
    exact r_Model_stuck_155 X a0 u.2 zN ((nI 0), (nI 0)) hm _ _ _ hI (lv_sub hl [2, 1, 0] rfl)
  · replace hm := zif_f hc58 hm
    refine lv_iconst (v := (nI 0)) hx hb d_Model_stuck_61 (by decide) ?_
    refine lv_istore_n (lv' := [(3, .int (nI 0)), (0, .ref (G.1 a0))]) hx hb d_Model_stuck_62 rfl hl (by decide) rfl (fun ls hl => ?_)
    refine lv_iconst (v := (nI 0)) hx hb d_Model_stuck_63 (by decide) ?_
    refine lv_istore (lv' := [(4, .int (nI 0)), (3, .int (nI 0)), (0, .ref (G.1 a0))]) hx hb d_Model_stuck_64 hl (by decide) rfl (fun ls hl => ?_)
    obtain ⟨g2, e2⟩ : ∃ z, z = u.2 := ⟨_, rfl⟩
    rw [← e2] at hm hI
    exact r_Model_stuck_66 X a0 k57 hk57 zN ((nI 0), (nI 0), g2) hm _ _ _ hI (lv_sub hl [2, 1, 0] rfl)
theorem r_Model_stuck_57 {p : Program} {l : Launch} {e : Env} {s : State} {m : MethodId} {args : Array Value} {below : List Frame} {meth : Method} {c : Code} {G : zG} {K : Nat} (X : zX p s m args meth c "AllHomeModel" prog_9_method_57_code 6 (some .int) G (zA G K)) {r : Int32} {h' : zH} (a0 : Nat) : ∀ (n : Nat) (w : Int32 × zH), zloop (g_Model_stuck_57 a0) n w = some (r, h') → ∀ (H : Heap) (locs : List Loc) (ls : Array Slot), zI G K s (zA G K) H locs w.2 → lv_has ls 6 [(0, .ref (G.1 a0)), (3, .int w.1)] → W p l e (zR 8) s m args below meth c H locs 0 0 (MQ below (zQi G K r h') args s 0 0 (zA G K)) (F0 m 57 ls []) := by
  intro n
  induction n with
  | zero => intro w hm; cases hm
  | succ n ih => intro w hm H locs ls hI hl; exact r_Model_stuck_57_b X a0 (zloop (g_Model_stuck_57 a0) n) ih w (zls hm) hI hl
set_option maxHeartbeats 4000000 in
set_option maxRecDepth 100000 in
theorem r_Model_stuck_14_b {p : Program} {l : Launch} {e : Env} {s : State} {m : MethodId} {args : Array Value} {below : List Frame} {meth : Method} {c : Code} {G : zG} {K : Nat} (X : zX p s m args meth c "AllHomeModel" prog_9_method_57_code 6 (some .int) G (zA G K)) {r : Int32} {h' : zH} (a0 : Nat) (k14 : (Int32 × zH) → Option (Int32 × zH)) (hk14 : ∀ (w : Int32 × zH), k14 w = some (r, h') → ∀ (H : Heap) (locs : List Loc) (ls : Array Slot), zI G K s (zA G K) H locs w.2 → lv_has ls 6 [(0, .ref (G.1 a0)), (3, .int w.1)] → W p l e (zR 8) s m args below meth c H locs 0 0 (MQ below (zQi G K r h') args s 0 0 (zA G K)) (F0 m 14 ls [])) (u : Int32 × zH) (hm : g_Model_stuck_14 a0 k14 u = some (r, h')) {H : Heap} {locs : List Loc} {ls : Array Slot} (hI : zI G K s (zA G K) H locs u.2) (hl : lv_has ls 6 [(0, .ref (G.1 a0)), (3, .int u.1)]) : W p l e (zR 8) s m args below meth c H locs 0 0 (MQ below (zQi G K r h') args s 0 0 (zA G K)) (F0 m 14 ls []) := by
  obtain ⟨hx, hb, hml, hown, hts, hr, hlocks, hK, hST, hNs⟩ := id X
  unfold g_Model_stuck_14 at hm
  refine lv_iload_n hx hb d_Model_stuck_14 rfl (lv_at hl 1 rfl) ?_
  refine lv_aload_n hx hb d_Model_stuck_15 rfl (lv_at hl 0 rfl) ?_
  obtain ⟨v16, hv, hm⟩ := zbd hm
  refine z_getI X hI F_Model_234 hv d_Model_stuck_16 ?_
  refine lv_icmp_ge (tgt := 55) hx hb d_Model_stuck_19 (by decide) (fun hc19 => ?_) (fun hc19 => ?_)
  · replace hm := zif_t hc19 hm
    refine lv_iconst (v := (nI 1)) hx hb d_Model_stuck_55 (by decide) ?_
    refine lv_istore_n (lv' := [(3, .int (nI 1)), (0, .ref (G.1 a0))]) hx hb d_Model_stuck_56 rfl hl (by decide) rfl (fun ls hl => ?_)
    obtain ⟨g1, e1⟩ : ∃ z, z = u.2 := ⟨_, rfl⟩
    rw [← e1] at hm hI
    exact r_Model_stuck_57 X a0 zN ((nI 1), g1) hm _ _ _ hI (lv_sub hl [1, 0] rfl)
  · replace hm := zif_f hc19 hm
    refine lv_aload_n hx hb d_Model_stuck_22 rfl (lv_at hl 0 rfl) ?_
    obtain ⟨v23, hv, hm⟩ := zbd hm
    refine z_getR X hI F_Model_55 hv d_Model_stuck_23 ?_
    refine lv_iload_n hx hb d_Model_stuck_26 rfl (lv_at hl 1 rfl) ?_
    refine lv_aload_n hx hb d_Model_stuck_27 rfl (lv_at hl 0 rfl) ?_
    obtain ⟨v28, hv, hm⟩ := zbd hm
    refine z_getR X hI F_Model_46 hv d_Model_stuck_28 ?_
    refine lv_bipush (v := (nI 91)) hx hb d_Model_stuck_31 (by decide) ?_
    refine lv_iload_n hx hb d_Model_stuck_33 rfl (lv_at hl 1 rfl) ?_
    refine lv_imul hx hb d_Model_stuck_34 ?_
    refine lv_bipush (v := (nI 87)) hx hb d_Model_stuck_35 (by decide) ?_
    refine lv_iadd hx hb d_Model_stuck_37 ?_
    obtain ⟨v38, hv, hm⟩ := zbd hm
    refine z_iald X hI hv d_Model_stuck_38 ?_
    refine lv_iconst (v := (nI 1)) hx hb d_Model_stuck_39 (by decide) ?_
    refine lv_icmp_ne (tgt := 47) hx hb d_Model_stuck_40 (by decide) (fun hc40 => ?_) (fun hc40 => ?_)
    · replace hm := zif_f hc40 hm
      refine lv_iconst (v := (nI 0)) hx hb d_Model_stuck_47 (by decide) ?_
      obtain ⟨h48, hv, hm⟩ := zbd hm
      refine z_zast X hI hv d_Model_stuck_48 (fun H locs hI => ?_)
      refine lv_iinc (v := (u.1 + (nI 1))) (lv' := [(3, .int (u.1 + (nI 1))), (0, .ref (G.1 a0))]) hx hb d_Model_stuck_49 hl (k := 1) rfl (congrArg (fun z => u.1 + z) (show Int32.ofInt (1) = (nI 1) by decide)) (by decide) rfl (fun ls hl => ?_)
      refine lv_goto (tgt := 14) hx hb d_Model_stuck_52 (by decide) ?_
      obtain ⟨g0, e0⟩ : ∃ z, z = (u.1 + (nI 1)) := ⟨_, rfl⟩
      rw [← e0] at hm hl
      exact hk14 (g0, h48) hm _ _ _ hI (lv_sub hl [1, 0] rfl)
    · replace hm := zif_t hc40 hm
      refine lv_iconst (v := (nI 1)) hx hb d_Model_stuck_43 (by decide) ?_
      refine lv_goto (tgt := 48) hx hb d_Model_stuck_44 (by decide) ?_
      obtain ⟨h48, hv, hm⟩ := zbd hm
      refine z_zast X hI hv d_Model_stuck_48 (fun H locs hI => ?_)
      refine lv_iinc (v := (u.1 + (nI 1))) (lv' := [(3, .int (u.1 + (nI 1))), (0, .ref (G.1 a0))]) hx hb d_Model_stuck_49 hl (k := 1) rfl (congrArg (fun z => u.1 + z) (show Int32.ofInt (1) = (nI 1) by decide)) (by decide) rfl (fun ls hl => ?_)
      refine lv_goto (tgt := 14) hx hb d_Model_stuck_52 (by decide) ?_
      obtain ⟨g0, e0⟩ : ∃ z, z = (u.1 + (nI 1)) := ⟨_, rfl⟩
      rw [← e0] at hm hl
      exact hk14 (g0, h48) hm _ _ _ hI (lv_sub hl [1, 0] rfl)
theorem r_Model_stuck_14 {p : Program} {l : Launch} {e : Env} {s : State} {m : MethodId} {args : Array Value} {below : List Frame} {meth : Method} {c : Code} {G : zG} {K : Nat} (X : zX p s m args meth c "AllHomeModel" prog_9_method_57_code 6 (some .int) G (zA G K)) {r : Int32} {h' : zH} (a0 : Nat) : ∀ (n : Nat) (w : Int32 × zH), zloop (g_Model_stuck_14 a0) n w = some (r, h') → ∀ (H : Heap) (locs : List Loc) (ls : Array Slot), zI G K s (zA G K) H locs w.2 → lv_has ls 6 [(0, .ref (G.1 a0)), (3, .int w.1)] → W p l e (zR 8) s m args below meth c H locs 0 0 (MQ below (zQi G K r h') args s 0 0 (zA G K)) (F0 m 14 ls []) := by
  intro n
  induction n with
  | zero => intro w hm; cases hm
  | succ n ih => intro w hm H locs ls hI hl; exact r_Model_stuck_14_b X a0 (zloop (g_Model_stuck_14 a0) n) ih w (zls hm) hI hl
set_option maxHeartbeats 4000000 in
set_option maxRecDepth 100000 in
theorem r_Model_stuck_0 {p : Program} {l : Launch} {e : Env} {s : State} {m : MethodId} {args : Array Value} {below : List Frame} {meth : Method} {c : Code} {G : zG} {K : Nat} (X : zX p s m args meth c "AllHomeModel" prog_9_method_57_code 6 (some .int) G (zA G K)) {r : Int32} {h' : zH} (a0 : Nat) (x1 : Int32) (h : zH) (hm : m_Model_stuck a0 x1 h = some (r, h')) {H : Heap} {locs : List Loc} {ls : Array Slot} (hI : zI G K s (zA G K) H locs h) (hl : lv_has ls 6 [(0, .ref (G.1 a0)), (1, .int x1)]) : W p l e (zR 8) s m args below meth c H locs 0 0 (MQ below (zQi G K r h') args s 0 0 (zA G K)) (F0 m 0 ls []) := by
  obtain ⟨hx, hb, hml, hown, hts, hr, hlocks, hK, hST, hNs⟩ := id X
  unfold m_Model_stuck at hm
  refine lv_aload_n hx hb d_Model_stuck_0 rfl (lv_at hl 0 rfl) ?_
  refine lv_iload_n hx hb d_Model_stuck_1 rfl (lv_at hl 1 rfl) ?_
  obtain ⟨v2, h2, hv, hm⟩ := zb2_at hm
  obtain ⟨hq, hv⟩ := zcv_at hv
  refine z_ci hI (z_runV (As := [.int x1]) (rest := []) X hI hl.1 (c_Model_noOrders l G K a0 x1 h _ _ hv) C_Model_252 rfl hq (Nat.le_of_ble_eq_true rfl) ⟨Nat.le_of_ble_eq_true rfl, Nat.le_of_ble_eq_true rfl, Nat.zero_le _, Nat.zero_le _⟩ rfl d_Model_stuck_2) (fun H locs hI => ?_)
  refine lv_istore_n (lv' := [(2, .int v2), (0, .ref (G.1 a0)), (1, .int x1)]) hx hb d_Model_stuck_5 rfl hl (by decide) rfl (fun ls hl => ?_)
  refine lv_iload_n hx hb d_Model_stuck_6 rfl (lv_at hl 0 rfl) ?_
  refine lv_if_ge (tgt := 12) hx hb d_Model_stuck_7 (by decide) (fun hc7 => ?_) (fun hc7 => ?_)
  · replace hm := zif_t hc7 hm
    refine lv_iconst (v := (nI 0)) hx hb d_Model_stuck_12 (by decide) ?_
    refine lv_istore_n (lv' := [(3, .int (nI 0)), (2, .int v2), (0, .ref (G.1 a0)), (1, .int x1)]) hx hb d_Model_stuck_13 rfl hl (by decide) rfl (fun ls hl => ?_)
    exact r_Model_stuck_14 X a0 zN ((nI 0), h2) hm _ _ _ hI (lv_sub hl [2, 0] rfl)
  · replace hm := zif_f hc7 hm
    refine lv_iload_n hx hb d_Model_stuck_10 rfl (lv_at hl 0 rfl) ?_
    obtain ⟨rfl, rfl⟩ := zs2 hm
    exact z_iret X hI d_Model_stuck_11
set_option maxHeartbeats 4000000 in
set_option maxRecDepth 100000 in
theorem c_Model_stuck (l : Launch) (G : zG) (K : Nat) (a0 : Nat) (x1 : Int32) (h : zH) (r : Int32) (h' : zH) (hm : m_Model_stuck a0 x1 h = some (r, h')) : zMi l G K y_Model_stuck prog_9_method_57_code 6 8 [.ref (G.1 a0), .int x1] h r h' := zMet (by decide +kernel) (Nat.le_of_ble_eq_true rfl) (fun p e s m below meth c ls X hI hl => r_Model_stuck_0 X a0 x1 h hm hI hl)
-- walk of AllHomeModel.worksAlike
theorem d_Model_worksAlike_0 : decode prog_9_method_58_code 0 = .ok (.bipush 91, 2) := by decide +kernel
theorem d_Model_worksAlike_2 : decode prog_9_method_58_code 2 = .ok (.iload_n 1, 1) := by decide +kernel
theorem d_Model_worksAlike_3 : decode prog_9_method_58_code 3 = .ok (.imul, 1) := by decide +kernel
theorem d_Model_worksAlike_4 : decode prog_9_method_58_code 4 = .ok (.istore_n 3, 1) := by decide +kernel
theorem d_Model_worksAlike_5 : decode prog_9_method_58_code 5 = .ok (.bipush 91, 2) := by decide +kernel
theorem d_Model_worksAlike_7 : decode prog_9_method_58_code 7 = .ok (.iload_n 2, 1) := by decide +kernel
theorem d_Model_worksAlike_8 : decode prog_9_method_58_code 8 = .ok (.imul, 1) := by decide +kernel
theorem d_Model_worksAlike_9 : decode prog_9_method_58_code 9 = .ok (.istore 4, 2) := by decide +kernel
theorem d_Model_worksAlike_11 : decode prog_9_method_58_code 11 = .ok (.aload_n 0, 1) := by decide +kernel
theorem d_Model_worksAlike_12 : decode prog_9_method_58_code 12 = .ok (.getfield 46, 3) := by decide +kernel
theorem d_Model_worksAlike_15 : decode prog_9_method_58_code 15 = .ok (.iload_n 3, 1) := by decide +kernel
theorem d_Model_worksAlike_16 : decode prog_9_method_58_code 16 = .ok (.bipush 36, 2) := by decide +kernel
theorem d_Model_worksAlike_18 : decode prog_9_method_58_code 18 = .ok (.iadd, 1) := by decide +kernel
theorem d_Model_worksAlike_19 : decode prog_9_method_58_code 19 = .ok (.iaload, 1) := by decide +kernel
theorem d_Model_worksAlike_20 : decode prog_9_method_58_code 20 = .ok (.aload_n 0, 1) := by decide +kernel
theorem d_Model_worksAlike_21 : decode prog_9_method_58_code 21 = .ok (.getfield 46, 3) := by decide +kernel
theorem d_Model_worksAlike_24 : decode prog_9_method_58_code 24 = .ok (.iload 4, 2) := by decide +kernel
theorem d_Model_worksAlike_26 : decode prog_9_method_58_code 26 = .ok (.bipush 36, 2) := by decide +kernel
theorem d_Model_worksAlike_28 : decode prog_9_method_58_code 28 = .ok (.iadd, 1) := by decide +kernel
theorem d_Model_worksAlike_29 : decode prog_9_method_58_code 29 = .ok (.iaload, 1) := by decide +kernel
theorem d_Model_worksAlike_30 : decode prog_9_method_58_code 30 = .ok (.if_icmp .ne 7, 3) := by decide +kernel
theorem d_Model_worksAlike_33 : decode prog_9_method_58_code 33 = .ok (.iconst 1, 1) := by decide +kernel
theorem d_Model_worksAlike_34 : decode prog_9_method_58_code 34 = .ok (.goto 4, 3) := by decide +kernel
theorem d_Model_worksAlike_37 : decode prog_9_method_58_code 37 = .ok (.iconst 0, 1) := by decide +kernel
theorem d_Model_worksAlike_38 : decode prog_9_method_58_code 38 = .ok (.istore 5, 2) := by decide +kernel
theorem d_Model_worksAlike_40 : decode prog_9_method_58_code 40 = .ok (.iconst 0, 1) := by decide +kernel
theorem d_Model_worksAlike_41 : decode prog_9_method_58_code 41 = .ok (.istore 6, 2) := by decide +kernel
theorem d_Model_worksAlike_43 : decode prog_9_method_58_code 43 = .ok (.iload 6, 2) := by decide +kernel
theorem d_Model_worksAlike_45 : decode prog_9_method_58_code 45 = .ok (.aload_n 0, 1) := by decide +kernel
theorem d_Model_worksAlike_46 : decode prog_9_method_58_code 46 = .ok (.getfield 78, 3) := by decide +kernel
theorem d_Model_worksAlike_49 : decode prog_9_method_58_code 49 = .ok (.if_icmp .ge 70, 3) := by decide +kernel
theorem d_Model_worksAlike_52 : decode prog_9_method_58_code 52 = .ok (.iconst 0, 1) := by decide +kernel
theorem d_Model_worksAlike_53 : decode prog_9_method_58_code 53 = .ok (.istore 7, 2) := by decide +kernel
theorem d_Model_worksAlike_55 : decode prog_9_method_58_code 55 = .ok (.iload 7, 2) := by decide +kernel
theorem d_Model_worksAlike_57 : decode prog_9_method_58_code 57 = .ok (.iconst 2, 1) := by decide +kernel
theorem d_Model_worksAlike_58 : decode prog_9_method_58_code 58 = .ok (.if_icmp .gt 55, 3) := by decide +kernel
theorem d_Model_worksAlike_61 : decode prog_9_method_58_code 61 = .ok (.iload 5, 2) := by decide +kernel
theorem d_Model_worksAlike_63 : decode prog_9_method_58_code 63 = .ok (.ifCond .eq 41, 3) := by decide +kernel
theorem d_Model_worksAlike_66 : decode prog_9_method_58_code 66 = .ok (.aload_n 0, 1) := by decide +kernel
theorem d_Model_worksAlike_67 : decode prog_9_method_58_code 67 = .ok (.getfield 46, 3) := by decide +kernel
theorem d_Model_worksAlike_70 : decode prog_9_method_58_code 70 = .ok (.iload_n 3, 1) := by decide +kernel
theorem d_Model_worksAlike_71 : decode prog_9_method_58_code 71 = .ok (.bipush 6, 2) := by decide +kernel
theorem d_Model_worksAlike_73 : decode prog_9_method_58_code 73 = .ok (.iload 6, 2) := by decide +kernel
theorem d_Model_worksAlike_75 : decode prog_9_method_58_code 75 = .ok (.imul, 1) := by decide +kernel
theorem d_Model_worksAlike_76 : decode prog_9_method_58_code 76 = .ok (.iadd, 1) := by decide +kernel
theorem d_Model_worksAlike_77 : decode prog_9_method_58_code 77 = .ok (.iload 7, 2) := by decide +kernel
theorem d_Model_worksAlike_79 : decode prog_9_method_58_code 79 = .ok (.iadd, 1) := by decide +kernel
theorem d_Model_worksAlike_80 : decode prog_9_method_58_code 80 = .ok (.iaload, 1) := by decide +kernel
theorem d_Model_worksAlike_81 : decode prog_9_method_58_code 81 = .ok (.aload_n 0, 1) := by decide +kernel
theorem d_Model_worksAlike_82 : decode prog_9_method_58_code 82 = .ok (.getfield 46, 3) := by decide +kernel
theorem d_Model_worksAlike_85 : decode prog_9_method_58_code 85 = .ok (.iload 4, 2) := by decide +kernel
theorem d_Model_worksAlike_87 : decode prog_9_method_58_code 87 = .ok (.bipush 6, 2) := by decide +kernel
theorem d_Model_worksAlike_89 : decode prog_9_method_58_code 89 = .ok (.iload 6, 2) := by decide +kernel
theorem d_Model_worksAlike_91 : decode prog_9_method_58_code 91 = .ok (.imul, 1) := by decide +kernel
theorem d_Model_worksAlike_92 : decode prog_9_method_58_code 92 = .ok (.iadd, 1) := by decide +kernel
theorem d_Model_worksAlike_93 : decode prog_9_method_58_code 93 = .ok (.iload 7, 2) := by decide +kernel
theorem d_Model_worksAlike_95 : decode prog_9_method_58_code 95 = .ok (.iadd, 1) := by decide +kernel
theorem d_Model_worksAlike_96 : decode prog_9_method_58_code 96 = .ok (.iaload, 1) := by decide +kernel
theorem d_Model_worksAlike_97 : decode prog_9_method_58_code 97 = .ok (.if_icmp .ne 7, 3) := by decide +kernel
theorem d_Model_worksAlike_100 : decode prog_9_method_58_code 100 = .ok (.iconst 1, 1) := by decide +kernel
theorem d_Model_worksAlike_101 : decode prog_9_method_58_code 101 = .ok (.goto 4, 3) := by decide +kernel
theorem d_Model_worksAlike_104 : decode prog_9_method_58_code 104 = .ok (.iconst 0, 1) := by decide +kernel
theorem d_Model_worksAlike_105 : decode prog_9_method_58_code 105 = .ok (.istore 5, 2) := by decide +kernel
theorem d_Model_worksAlike_107 : decode prog_9_method_58_code 107 = .ok (.iinc 7 1, 3) := by decide +kernel
theorem d_Model_worksAlike_110 : decode prog_9_method_58_code 110 = .ok (.goto (-55), 3) := by decide +kernel
theorem d_Model_worksAlike_113 : decode prog_9_method_58_code 113 = .ok (.iinc 6 1, 3) := by decide +kernel
theorem d_Model_worksAlike_116 : decode prog_9_method_58_code 116 = .ok (.goto (-73), 3) := by decide +kernel
theorem d_Model_worksAlike_119 : decode prog_9_method_58_code 119 = .ok (.iconst 0, 1) := by decide +kernel
theorem d_Model_worksAlike_120 : decode prog_9_method_58_code 120 = .ok (.istore 6, 2) := by decide +kernel
theorem d_Model_worksAlike_122 : decode prog_9_method_58_code 122 = .ok (.iload 6, 2) := by decide +kernel
theorem d_Model_worksAlike_124 : decode prog_9_method_58_code 124 = .ok (.bipush 8, 2) := by decide +kernel
theorem d_Model_worksAlike_126 : decode prog_9_method_58_code 126 = .ok (.if_icmp .ge 93, 3) := by decide +kernel
theorem d_Model_worksAlike_129 : decode prog_9_method_58_code 129 = .ok (.iload 5, 2) := by decide +kernel
theorem d_Model_worksAlike_131 : decode prog_9_method_58_code 131 = .ok (.ifCond .eq 79, 3) := by decide +kernel
theorem d_Model_worksAlike_134 : decode prog_9_method_58_code 134 = .ok (.aload_n 0, 1) := by decide +kernel
theorem d_Model_worksAlike_135 : decode prog_9_method_58_code 135 = .ok (.getfield 46, 3) := by decide +kernel
theorem d_Model_worksAlike_138 : decode prog_9_method_58_code 138 = .ok (.iload_n 3, 1) := by decide +kernel
theorem d_Model_worksAlike_139 : decode prog_9_method_58_code 139 = .ok (.bipush 36, 2) := by decide +kernel
theorem d_Model_worksAlike_141 : decode prog_9_method_58_code 141 = .ok (.iadd, 1) := by decide +kernel
theorem d_Model_worksAlike_142 : decode prog_9_method_58_code 142 = .ok (.iconst 1, 1) := by decide +kernel
theorem d_Model_worksAlike_143 : decode prog_9_method_58_code 143 = .ok (.iadd, 1) := by decide +kernel
theorem d_Model_worksAlike_144 : decode prog_9_method_58_code 144 = .ok (.iconst 3, 1) := by decide +kernel
theorem d_Model_worksAlike_145 : decode prog_9_method_58_code 145 = .ok (.iload 6, 2) := by decide +kernel
theorem d_Model_worksAlike_147 : decode prog_9_method_58_code 147 = .ok (.imul, 1) := by decide +kernel
theorem d_Model_worksAlike_148 : decode prog_9_method_58_code 148 = .ok (.iadd, 1) := by decide +kernel
theorem d_Model_worksAlike_149 : decode prog_9_method_58_code 149 = .ok (.iaload, 1) := by decide +kernel
theorem d_Model_worksAlike_150 : decode prog_9_method_58_code 150 = .ok (.aload_n 0, 1) := by decide +kernel
theorem d_Model_worksAlike_151 : decode prog_9_method_58_code 151 = .ok (.getfield 46, 3) := by decide +kernel
theorem d_Model_worksAlike_154 : decode prog_9_method_58_code 154 = .ok (.iload 4, 2) := by decide +kernel
theorem d_Model_worksAlike_156 : decode prog_9_method_58_code 156 = .ok (.bipush 36, 2) := by decide +kernel
theorem d_Model_worksAlike_158 : decode prog_9_method_58_code 158 = .ok (.iadd, 1) := by decide +kernel
theorem d_Model_worksAlike_159 : decode prog_9_method_58_code 159 = .ok (.iconst 1, 1) := by decide +kernel
theorem d_Model_worksAlike_160 : decode prog_9_method_58_code 160 = .ok (.iadd, 1) := by decide +kernel
theorem d_Model_worksAlike_161 : decode prog_9_method_58_code 161 = .ok (.iconst 3, 1) := by decide +kernel
theorem d_Model_worksAlike_162 : decode prog_9_method_58_code 162 = .ok (.iload 6, 2) := by decide +kernel
theorem d_Model_worksAlike_164 : decode prog_9_method_58_code 164 = .ok (.imul, 1) := by decide +kernel
theorem d_Model_worksAlike_165 : decode prog_9_method_58_code 165 = .ok (.iadd, 1) := by decide +kernel
theorem d_Model_worksAlike_166 : decode prog_9_method_58_code 166 = .ok (.iaload, 1) := by decide +kernel
theorem d_Model_worksAlike_167 : decode prog_9_method_58_code 167 = .ok (.if_icmp .ne 43, 3) := by decide +kernel
theorem d_Model_worksAlike_170 : decode prog_9_method_58_code 170 = .ok (.aload_n 0, 1) := by decide +kernel
theorem d_Model_worksAlike_171 : decode prog_9_method_58_code 171 = .ok (.getfield 46, 3) := by decide +kernel
theorem d_Model_worksAlike_174 : decode prog_9_method_58_code 174 = .ok (.iload_n 3, 1) := by decide +kernel
theorem d_Model_worksAlike_175 : decode prog_9_method_58_code 175 = .ok (.bipush 36, 2) := by decide +kernel
theorem d_Model_worksAlike_177 : decode prog_9_method_58_code 177 = .ok (.iadd, 1) := by decide +kernel
theorem d_Model_worksAlike_178 : decode prog_9_method_58_code 178 = .ok (.iconst 2, 1) := by decide +kernel
theorem d_Model_worksAlike_179 : decode prog_9_method_58_code 179 = .ok (.iadd, 1) := by decide +kernel
theorem d_Model_worksAlike_180 : decode prog_9_method_58_code 180 = .ok (.iconst 3, 1) := by decide +kernel
theorem d_Model_worksAlike_181 : decode prog_9_method_58_code 181 = .ok (.iload 6, 2) := by decide +kernel
theorem d_Model_worksAlike_183 : decode prog_9_method_58_code 183 = .ok (.imul, 1) := by decide +kernel
theorem d_Model_worksAlike_184 : decode prog_9_method_58_code 184 = .ok (.iadd, 1) := by decide +kernel
theorem d_Model_worksAlike_185 : decode prog_9_method_58_code 185 = .ok (.iaload, 1) := by decide +kernel
theorem d_Model_worksAlike_186 : decode prog_9_method_58_code 186 = .ok (.aload_n 0, 1) := by decide +kernel
theorem d_Model_worksAlike_187 : decode prog_9_method_58_code 187 = .ok (.getfield 46, 3) := by decide +kernel
theorem d_Model_worksAlike_190 : decode prog_9_method_58_code 190 = .ok (.iload 4, 2) := by decide +kernel
theorem d_Model_worksAlike_192 : decode prog_9_method_58_code 192 = .ok (.bipush 36, 2) := by decide +kernel
theorem d_Model_worksAlike_194 : decode prog_9_method_58_code 194 = .ok (.iadd, 1) := by decide +kernel
theorem d_Model_worksAlike_195 : decode prog_9_method_58_code 195 = .ok (.iconst 2, 1) := by decide +kernel
theorem d_Model_worksAlike_196 : decode prog_9_method_58_code 196 = .ok (.iadd, 1) := by decide +kernel
theorem d_Model_worksAlike_197 : decode prog_9_method_58_code 197 = .ok (.iconst 3, 1) := by decide +kernel
theorem d_Model_worksAlike_198 : decode prog_9_method_58_code 198 = .ok (.iload 6, 2) := by decide +kernel
theorem d_Model_worksAlike_200 : decode prog_9_method_58_code 200 = .ok (.imul, 1) := by decide +kernel
theorem d_Model_worksAlike_201 : decode prog_9_method_58_code 201 = .ok (.iadd, 1) := by decide +kernel
theorem d_Model_worksAlike_202 : decode prog_9_method_58_code 202 = .ok (.iaload, 1) := by decide +kernel
theorem d_Model_worksAlike_203 : decode prog_9_method_58_code 203 = .ok (.if_icmp .ne 7, 3) := by decide +kernel
theorem d_Model_worksAlike_206 : decode prog_9_method_58_code 206 = .ok (.iconst 1, 1) := by decide +kernel
theorem d_Model_worksAlike_207 : decode prog_9_method_58_code 207 = .ok (.goto 4, 3) := by decide +kernel
theorem d_Model_worksAlike_210 : decode prog_9_method_58_code 210 = .ok (.iconst 0, 1) := by decide +kernel
theorem d_Model_worksAlike_211 : decode prog_9_method_58_code 211 = .ok (.istore 5, 2) := by decide +kernel
theorem d_Model_worksAlike_213 : decode prog_9_method_58_code 213 = .ok (.iinc 6 1, 3) := by decide +kernel
theorem d_Model_worksAlike_216 : decode prog_9_method_58_code 216 = .ok (.goto (-94), 3) := by decide +kernel
theorem d_Model_worksAlike_219 : decode prog_9_method_58_code 219 = .ok (.iload 5, 2) := by decide +kernel
theorem d_Model_worksAlike_221 : decode prog_9_method_58_code 221 = .ok (.ireturn, 1) := by decide +kernel
set_option maxHeartbeats 4000000 in
set_option maxRecDepth 100000 in
theorem r_Model_worksAlike_122_b {p : Program} {l : Launch} {e : Env} {s : State} {m : MethodId} {args : Array Value} {below : List Frame} {meth : Method} {c : Code} {G : zG} {K : Nat} (X : zX p s m args meth c "AllHomeModel" prog_9_method_58_code 8 (some .boolean) G (zA G K)) {r : Int32} (a0 : Nat) (x3 : Int32) (x4 : Int32) (h : zH) (k122 : (Int32 × Int32) → Option Int32) (hk122 : ∀ (w : Int32 × Int32), k122 w = some r → ∀ (H : Heap) (locs : List Loc) (ls : Array Slot), zI G K s (zA G K) H locs h → lv_has ls 8 [(0, .ref (G.1 a0)), (3, .int x3), (4, .int x4), (5, .int w.1), (6, .int w.2)] → W p l e (zR 0) s m args below meth c H locs 0 0 (MQ below (zQi G K r h) args s 0 0 (zA G K)) (F0 m 122 ls [])) (u : Int32 × Int32) (hm : g_Model_worksAlike_122 a0 x3 x4 h k122 u = some r) {H : Heap} {locs : List Loc} {ls : Array Slot} (hI : zI G K s (zA G K) H locs h) (hl : lv_has ls 8 [(0, .ref (G.1 a0)), (3, .int x3), (4, .int x4), (5, .int u.1), (6, .int u.2)]) : W p l e (zR 0) s m args below meth c H locs 0 0 (MQ below (zQi G K r h) args s 0 0 (zA G K)) (F0 m 122 ls []) := by
  obtain ⟨hx, hb, hml, hown, hts, hr, hlocks, hK, hST, hNs⟩ := id X
  unfold g_Model_worksAlike_122 at hm
  refine lv_iload hx hb d_Model_worksAlike_122 (lv_at hl 4 rfl) ?_
  refine lv_bipush (v := (nI 8)) hx hb d_Model_worksAlike_124 (by decide) ?_
  refine lv_icmp_ge (tgt := 219) hx hb d_Model_worksAlike_126 (by decide) (fun hc126 => ?_) (fun hc126 => ?_)
  · replace hm := zif_t hc126 hm
    refine lv_iload hx hb d_Model_worksAlike_219 (lv_at hl 3 rfl) ?_
    obtain ⟨hz, hm⟩ := zbl_at hm
    obtain rfl := zs1 hm
    exact z_zret X hI hz d_Model_worksAlike_221
  · replace hm := zif_f hc126 hm
    refine lv_iload hx hb d_Model_worksAlike_129 (lv_at hl 3 rfl) ?_
    refine lv_if_eq (tgt := 210) hx hb d_Model_worksAlike_131 (by decide) (fun hc131 => ?_) (fun hc131 => ?_)
    · replace hm := zif_t hc131 hm
      refine lv_iconst (v := (nI 0)) hx hb d_Model_worksAlike_210 (by decide) ?_
      refine lv_istore (lv' := [(5, .int (nI 0)), (0, .ref (G.1 a0)), (3, .int x3), (4, .int x4), (6, .int u.2)]) hx hb d_Model_worksAlike_211 hl (by decide) rfl (fun ls hl => ?_)
      refine lv_iinc (v := (u.2 + (nI 1))) (lv' := [(6, .int (u.2 + (nI 1))), (5, .int (nI 0)), (0, .ref (G.1 a0)), (3, .int x3), (4, .int x4)]) hx hb d_Model_worksAlike_213 hl (k := 4) rfl (congrArg (fun z => u.2 + z) (show Int32.ofInt (1) = (nI 1) by decide)) (by decide) rfl (fun ls hl => ?_)
      refine lv_goto (tgt := 122) hx hb d_Model_worksAlike_216 (by decide) ?_
      obtain ⟨g1, e1⟩ : ∃ z, z = (u.2 + (nI 1)) := ⟨_, rfl⟩
      rw [← e1] at hm hl
      exact hk122 ((nI 0), g1) hm _ _ _ hI (lv_sub hl [2, 3, 4, 1, 0] rfl)
    · replace hm := zif_f hc131 hm
      refine lv_aload_n hx hb d_Model_worksAlike_134 rfl (lv_at hl 0 rfl) ?_
      obtain ⟨v135, hv, hm⟩ := zbd hm
      refine z_getR X hI F_Model_46 hv d_Model_worksAlike_135 ?_
      refine lv_iload_n hx hb d_Model_worksAlike_138 rfl (lv_at hl 1 rfl) ?_
      refine lv_bipush (v := (nI 36)) hx hb d_Model_worksAlike_139 (by decide) ?_
      refine lv_iadd hx hb d_Model_worksAlike_141 ?_
      refine lv_iconst (v := (nI 1)) hx hb d_Model_worksAlike_142 (by decide) ?_
      refine lv_iadd hx hb d_Model_worksAlike_143 ?_
      refine lv_iconst (v := (nI 3)) hx hb d_Model_worksAlike_144 (by decide) ?_
      refine lv_iload hx hb d_Model_worksAlike_145 (lv_at hl 4 rfl) ?_
      refine lv_imul hx hb d_Model_worksAlike_147 ?_
      refine lv_iadd hx hb d_Model_worksAlike_148 ?_
      obtain ⟨v149, hv, hm⟩ := zbd hm
      refine z_iald X hI hv d_Model_worksAlike_149 ?_
      refine lv_aload_n hx hb d_Model_worksAlike_150 rfl (lv_at hl 0 rfl) ?_
      obtain ⟨v151, hv, hm⟩ := zbd hm
      refine z_getR X hI F_Model_46 hv d_Model_worksAlike_151 ?_
      refine lv_iload hx hb d_Model_worksAlike_154 (lv_at hl 2 rfl) ?_
      refine lv_bipush (v := (nI 36)) hx hb d_Model_worksAlike_156 (by decide) ?_
      refine lv_iadd hx hb d_Model_worksAlike_158 ?_
      refine lv_iconst (v := (nI 1)) hx hb d_Model_worksAlike_159 (by decide) ?_
      refine lv_iadd hx hb d_Model_worksAlike_160 ?_
      refine lv_iconst (v := (nI 3)) hx hb d_Model_worksAlike_161 (by decide) ?_
      refine lv_iload hx hb d_Model_worksAlike_162 (lv_at hl 4 rfl) ?_
      refine lv_imul hx hb d_Model_worksAlike_164 ?_
      refine lv_iadd hx hb d_Model_worksAlike_165 ?_
      obtain ⟨v166, hv, hm⟩ := zbd hm
      refine z_iald X hI hv d_Model_worksAlike_166 ?_
      refine lv_icmp_ne (tgt := 210) hx hb d_Model_worksAlike_167 (by decide) (fun hc167 => ?_) (fun hc167 => ?_)
      · replace hm := zif_f hc167 hm
        refine lv_iconst (v := (nI 0)) hx hb d_Model_worksAlike_210 (by decide) ?_
        refine lv_istore (lv' := [(5, .int (nI 0)), (0, .ref (G.1 a0)), (3, .int x3), (4, .int x4), (6, .int u.2)]) hx hb d_Model_worksAlike_211 hl (by decide) rfl (fun ls hl => ?_)
        refine lv_iinc (v := (u.2 + (nI 1))) (lv' := [(6, .int (u.2 + (nI 1))), (5, .int (nI 0)), (0, .ref (G.1 a0)), (3, .int x3), (4, .int x4)]) hx hb d_Model_worksAlike_213 hl (k := 4) rfl (congrArg (fun z => u.2 + z) (show Int32.ofInt (1) = (nI 1) by decide)) (by decide) rfl (fun ls hl => ?_)
        refine lv_goto (tgt := 122) hx hb d_Model_worksAlike_216 (by decide) ?_
        obtain ⟨g1, e1⟩ : ∃ z, z = (u.2 + (nI 1)) := ⟨_, rfl⟩
        rw [← e1] at hm hl
        exact hk122 ((nI 0), g1) hm _ _ _ hI (lv_sub hl [2, 3, 4, 1, 0] rfl)
      · replace hm := zif_t hc167 hm
        refine lv_aload_n hx hb d_Model_worksAlike_170 rfl (lv_at hl 0 rfl) ?_
        obtain ⟨v171, hv, hm⟩ := zbd hm
        refine z_getR X hI F_Model_46 hv d_Model_worksAlike_171 ?_
        refine lv_iload_n hx hb d_Model_worksAlike_174 rfl (lv_at hl 1 rfl) ?_
        refine lv_bipush (v := (nI 36)) hx hb d_Model_worksAlike_175 (by decide) ?_
        refine lv_iadd hx hb d_Model_worksAlike_177 ?_
        refine lv_iconst (v := (nI 2)) hx hb d_Model_worksAlike_178 (by decide) ?_
        refine lv_iadd hx hb d_Model_worksAlike_179 ?_
        refine lv_iconst (v := (nI 3)) hx hb d_Model_worksAlike_180 (by decide) ?_
        refine lv_iload hx hb d_Model_worksAlike_181 (lv_at hl 4 rfl) ?_
        refine lv_imul hx hb d_Model_worksAlike_183 ?_
        refine lv_iadd hx hb d_Model_worksAlike_184 ?_
        obtain ⟨v185, hv, hm⟩ := zbd hm
        refine z_iald X hI hv d_Model_worksAlike_185 ?_
        refine lv_aload_n hx hb d_Model_worksAlike_186 rfl (lv_at hl 0 rfl) ?_
        obtain ⟨v187, hv, hm⟩ := zbd hm
        refine z_getR X hI F_Model_46 hv d_Model_worksAlike_187 ?_
        refine lv_iload hx hb d_Model_worksAlike_190 (lv_at hl 2 rfl) ?_
        refine lv_bipush (v := (nI 36)) hx hb d_Model_worksAlike_192 (by decide) ?_
        refine lv_iadd hx hb d_Model_worksAlike_194 ?_
        refine lv_iconst (v := (nI 2)) hx hb d_Model_worksAlike_195 (by decide) ?_
        refine lv_iadd hx hb d_Model_worksAlike_196 ?_
        refine lv_iconst (v := (nI 3)) hx hb d_Model_worksAlike_197 (by decide) ?_
        refine lv_iload hx hb d_Model_worksAlike_198 (lv_at hl 4 rfl) ?_
        refine lv_imul hx hb d_Model_worksAlike_200 ?_
        refine lv_iadd hx hb d_Model_worksAlike_201 ?_
        obtain ⟨v202, hv, hm⟩ := zbd hm
        refine z_iald X hI hv d_Model_worksAlike_202 ?_
        refine lv_icmp_ne (tgt := 210) hx hb d_Model_worksAlike_203 (by decide) (fun hc203 => ?_) (fun hc203 => ?_)
        · replace hm := zif_f hc203 hm
          refine lv_iconst (v := (nI 0)) hx hb d_Model_worksAlike_210 (by decide) ?_
          refine lv_istore (lv' := [(5, .int (nI 0)), (0, .ref (G.1 a0)), (3, .int x3), (4, .int x4), (6, .int u.2)]) hx hb d_Model_worksAlike_211 hl (by decide) rfl (fun ls hl => ?_)
          refine lv_iinc (v := (u.2 + (nI 1))) (lv' := [(6, .int (u.2 + (nI 1))), (5, .int (nI 0)), (0, .ref (G.1 a0)), (3, .int x3), (4, .int x4)]) hx hb d_Model_worksAlike_213 hl (k := 4) rfl (congrArg (fun z => u.2 + z) (show Int32.ofInt (1) = (nI 1) by decide)) (by decide) rfl (fun ls hl => ?_)
          refine lv_goto (tgt := 122) hx hb d_Model_worksAlike_216 (by decide) ?_
          obtain ⟨g1, e1⟩ : ∃ z, z = (u.2 + (nI 1)) := ⟨_, rfl⟩
          rw [← e1] at hm hl
          exact hk122 ((nI 0), g1) hm _ _ _ hI (lv_sub hl [2, 3, 4, 1, 0] rfl)
        · replace hm := zif_t hc203 hm
          refine lv_iconst (v := (nI 1)) hx hb d_Model_worksAlike_206 (by decide) ?_
          refine lv_goto (tgt := 211) hx hb d_Model_worksAlike_207 (by decide) ?_
          refine lv_istore (lv' := [(5, .int (nI 1)), (0, .ref (G.1 a0)), (3, .int x3), (4, .int x4), (6, .int u.2)]) hx hb d_Model_worksAlike_211 hl (by decide) rfl (fun ls hl => ?_)
          refine lv_iinc (v := (u.2 + (nI 1))) (lv' := [(6, .int (u.2 + (nI 1))), (5, .int (nI 1)), (0, .ref (G.1 a0)), (3, .int x3), (4, .int x4)]) hx hb d_Model_worksAlike_213 hl (k := 4) rfl (congrArg (fun z => u.2 + z) (show Int32.ofInt (1) = (nI 1) by decide)) (by decide) rfl (fun ls hl => ?_)
          refine lv_goto (tgt := 122) hx hb d_Model_worksAlike_216 (by decide) ?_
          obtain ⟨g1, e1⟩ : ∃ z, z = (u.2 + (nI 1)) := ⟨_, rfl⟩
          rw [← e1] at hm hl
          exact hk122 ((nI 1), g1) hm _ _ _ hI (lv_sub hl [2, 3, 4, 1, 0] rfl)
theorem r_Model_worksAlike_122 {p : Program} {l : Launch} {e : Env} {s : State} {m : MethodId} {args : Array Value} {below : List Frame} {meth : Method} {c : Code} {G : zG} {K : Nat} (X : zX p s m args meth c "AllHomeModel" prog_9_method_58_code 8 (some .boolean) G (zA G K)) {r : Int32} (a0 : Nat) (x3 : Int32) (x4 : Int32) (h : zH) : ∀ (n : Nat) (w : Int32 × Int32), zloop (g_Model_worksAlike_122 a0 x3 x4 h) n w = some r → ∀ (H : Heap) (locs : List Loc) (ls : Array Slot), zI G K s (zA G K) H locs h → lv_has ls 8 [(0, .ref (G.1 a0)), (3, .int x3), (4, .int x4), (5, .int w.1), (6, .int w.2)] → W p l e (zR 0) s m args below meth c H locs 0 0 (MQ below (zQi G K r h) args s 0 0 (zA G K)) (F0 m 122 ls []) := by
  intro n
  induction n with
  | zero => intro w hm; cases hm
  | succ n ih => intro w hm H locs ls hI hl; exact r_Model_worksAlike_122_b X a0 x3 x4 h (zloop (g_Model_worksAlike_122 a0 x3 x4 h) n) ih w (zls hm) hI hl
set_option maxHeartbeats 4000000 in
set_option maxRecDepth 100000 in
theorem r_Model_worksAlike_55_b {p : Program} {l : Launch} {e : Env} {s : State} {m : MethodId} {args : Array Value} {below : List Frame} {meth : Method} {c : Code} {G : zG} {K : Nat} (X : zX p s m args meth c "AllHomeModel" prog_9_method_58_code 8 (some .boolean) G (zA G K)) {r : Int32} (a0 : Nat) (x3 : Int32) (x4 : Int32) (x6 : Int32) (h : zH) (k43 : (Int32 × Int32) → Option Int32) (hk43 : ∀ (w : Int32 × Int32), k43 w = some r → ∀ (H : Heap) (locs : List Loc) (ls : Array Slot), zI G K s (zA G K) H locs h → lv_has ls 8 [(0, .ref (G.1 a0)), (3, .int x3), (4, .int x4), (5, .int w.1), (6, .int w.2)] → W p l e (zR 0) s m args below meth c H locs 0 0 (MQ below (zQi G K r h) args s 0 0 (zA G K)) (F0 m 43 ls [])) (k55 : (Int32 × Int32) → Option Int32) (hk55 : ∀ (w : Int32 × Int32), k55 w = some r → ∀ (H : Heap) (locs : List Loc) (ls : Array Slot), zI G K s (zA G K) H locs h → lv_has ls 8 [(0, .ref (G.1 a0)), (3, .int x3), (4, .int x4), (5, .int w.1), (6, .int x6), (7, .int w.2)] → W p l e (zR 0) s m args below meth c H locs 0 0 (MQ below (zQi G K r h) args s 0 0 (zA G K)) (F0 m 55 ls [])) (u : Int32 × Int32) (hm : g_Model_worksAlike_55 a0 x3 x4 x6 h k43 k55 u = some r) {H : Heap} {locs : List Loc} {ls : Array Slot} (hI : zI G K s (zA G K) H locs h) (hl : lv_has ls 8 [(0, .ref (G.1 a0)), (3, .int x3), (4, .int x4), (5, .int u.1), (6, .int x6), (7, .int u.2)]) : W p l e (zR 0) s m args below meth c H locs 0 0 (MQ below (zQi G K r h) args s 0 0 (zA G K)) (F0 m 55 ls []) := by
  obtain ⟨hx, hb, hml, hown, hts, hr, hlocks, hK, hST, hNs⟩ := id X
  unfold g_Model_worksAlike_55 at hm
  refine lv_iload hx hb d_Model_worksAlike_55 (lv_at hl 5 rfl) ?_
  refine lv_iconst (v := (nI 2)) hx hb d_Model_worksAlike_57 (by decide) ?_
  refine lv_icmp_gt (tgt := 113) hx hb d_Model_worksAlike_58 (by decide) (fun hc58 => ?_) (fun hc58 => ?_)
  · replace hm := zif_t hc58 hm
    refine lv_iinc (v := (x6 + (nI 1))) (lv' := [(6, .int (x6 + (nI 1))), (0, .ref (G.1 a0)), (3, .int x3), (4, .int x4), (5, .int u.1), (7, .int u.2)]) hx hb d_Model_worksAlike_113 hl (k := 4) rfl (congrArg (fun z => x6 + z) (show Int32.ofInt (1) = (nI 1) by decide)) (by decide) rfl (fun ls hl => ?_)
    refine lv_goto (tgt := 43) hx hb d_Model_worksAlike_116 (by decide) ?_
    obtain ⟨g0, e0⟩ : ∃ z, z = u.1 := ⟨_, rfl⟩
    rw [← e0] at hm hl
    obtain ⟨g1, e1⟩ : ∃ z, z = (x6 + (nI 1)) := ⟨_, rfl⟩
    rw [← e1] at hm hl
    exact hk43 (g0, g1) hm _ _ _ hI (lv_sub hl [1, 2, 3, 4, 0] rfl)
  · replace hm := zif_f hc58 hm
    refine lv_iload hx hb d_Model_worksAlike_61 (lv_at hl 3 rfl) ?_
    refine lv_if_eq (tgt := 104) hx hb d_Model_worksAlike_63 (by decide) (fun hc63 => ?_) (fun hc63 => ?_)
    · replace hm := zif_t hc63 hm
      refine lv_iconst (v := (nI 0)) hx hb d_Model_worksAlike_104 (by decide) ?_
      refine lv_istore (lv' := [(5, .int (nI 0)), (0, .ref (G.1 a0)), (3, .int x3), (4, .int x4), (6, .int x6), (7, .int u.2)]) hx hb d_Model_worksAlike_105 hl (by decide) rfl (fun ls hl => ?_)
      refine lv_iinc (v := (u.2 + (nI 1))) (lv' := [(7, .int (u.2 + (nI 1))), (5, .int (nI 0)), (0, .ref (G.1 a0)), (3, .int x3), (4, .int x4), (6, .int x6)]) hx hb d_Model_worksAlike_107 hl (k := 5) rfl (congrArg (fun z => u.2 + z) (show Int32.ofInt (1) = (nI 1) by decide)) (by decide) rfl (fun ls hl => ?_)
      refine lv_goto (tgt := 55) hx hb d_Model_worksAlike_110 (by decide) ?_
      obtain ⟨g1, e1⟩ : ∃ z, z = (u.2 + (nI 1)) := ⟨_, rfl⟩
      rw [← e1] at hm hl
      exact hk55 ((nI 0), g1) hm _ _ _ hI (lv_sub hl [2, 3, 4, 1, 5, 0] rfl)
    · replace hm := zif_f hc63 hm
      refine lv_aload_n hx hb d_Model_worksAlike_66 rfl (lv_at hl 0 rfl) ?_
      obtain ⟨v67, hv, hm⟩ := zbd hm
      refine z_getR X hI F_Model_46 hv d_Model_worksAlike_67 ?_
      refine lv_iload_n hx hb d_Model_worksAlike_70 rfl (lv_at hl 1 rfl) ?_
      refine lv_bipush (v := (nI 6)) hx hb d_Model_worksAlike_71 (by decide) ?_
      refine lv_iload hx hb d_Model_worksAlike_73 (lv_at hl 4 rfl) ?_
      refine lv_imul hx hb d_Model_worksAlike_75 ?_
      refine lv_iadd hx hb d_Model_worksAlike_76 ?_
      refine lv_iload hx hb d_Model_worksAlike_77 (lv_at hl 5 rfl) ?_
      refine lv_iadd hx hb d_Model_worksAlike_79 ?_
      obtain ⟨v80, hv, hm⟩ := zbd hm
      refine z_iald X hI hv d_Model_worksAlike_80 ?_
      refine lv_aload_n hx hb d_Model_worksAlike_81 rfl (lv_at hl 0 rfl) ?_
      obtain ⟨v82, hv, hm⟩ := zbd hm
      refine z_getR X hI F_Model_46 hv d_Model_worksAlike_82 ?_
      refine lv_iload hx hb d_Model_worksAlike_85 (lv_at hl 2 rfl) ?_
      refine lv_bipush (v := (nI 6)) hx hb d_Model_worksAlike_87 (by decide) ?_
      refine lv_iload hx hb d_Model_worksAlike_89 (lv_at hl 4 rfl) ?_
      refine lv_imul hx hb d_Model_worksAlike_91 ?_
      refine lv_iadd hx hb d_Model_worksAlike_92 ?_
      refine lv_iload hx hb d_Model_worksAlike_93 (lv_at hl 5 rfl) ?_
      refine lv_iadd hx hb d_Model_worksAlike_95 ?_
      obtain ⟨v96, hv, hm⟩ := zbd hm
      refine z_iald X hI hv d_Model_worksAlike_96 ?_
      refine lv_icmp_ne (tgt := 104) hx hb d_Model_worksAlike_97 (by decide) (fun hc97 => ?_) (fun hc97 => ?_)
      · replace hm := zif_f hc97 hm
        refine lv_iconst (v := (nI 0)) hx hb d_Model_worksAlike_104 (by decide) ?_
        refine lv_istore (lv' := [(5, .int (nI 0)), (0, .ref (G.1 a0)), (3, .int x3), (4, .int x4), (6, .int x6), (7, .int u.2)]) hx hb d_Model_worksAlike_105 hl (by decide) rfl (fun ls hl => ?_)
        refine lv_iinc (v := (u.2 + (nI 1))) (lv' := [(7, .int (u.2 + (nI 1))), (5, .int (nI 0)), (0, .ref (G.1 a0)), (3, .int x3), (4, .int x4), (6, .int x6)]) hx hb d_Model_worksAlike_107 hl (k := 5) rfl (congrArg (fun z => u.2 + z) (show Int32.ofInt (1) = (nI 1) by decide)) (by decide) rfl (fun ls hl => ?_)
        refine lv_goto (tgt := 55) hx hb d_Model_worksAlike_110 (by decide) ?_
        obtain ⟨g1, e1⟩ : ∃ z, z = (u.2 + (nI 1)) := ⟨_, rfl⟩
        rw [← e1] at hm hl
        exact hk55 ((nI 0), g1) hm _ _ _ hI (lv_sub hl [2, 3, 4, 1, 5, 0] rfl)
      · replace hm := zif_t hc97 hm
        refine lv_iconst (v := (nI 1)) hx hb d_Model_worksAlike_100 (by decide) ?_
        refine lv_goto (tgt := 105) hx hb d_Model_worksAlike_101 (by decide) ?_
        refine lv_istore (lv' := [(5, .int (nI 1)), (0, .ref (G.1 a0)), (3, .int x3), (4, .int x4), (6, .int x6), (7, .int u.2)]) hx hb d_Model_worksAlike_105 hl (by decide) rfl (fun ls hl => ?_)
        refine lv_iinc (v := (u.2 + (nI 1))) (lv' := [(7, .int (u.2 + (nI 1))), (5, .int (nI 1)), (0, .ref (G.1 a0)), (3, .int x3), (4, .int x4), (6, .int x6)]) hx hb d_Model_worksAlike_107 hl (k := 5) rfl (congrArg (fun z => u.2 + z) (show Int32.ofInt (1) = (nI 1) by decide)) (by decide) rfl (fun ls hl => ?_)
        refine lv_goto (tgt := 55) hx hb d_Model_worksAlike_110 (by decide) ?_
        obtain ⟨g1, e1⟩ : ∃ z, z = (u.2 + (nI 1)) := ⟨_, rfl⟩
        rw [← e1] at hm hl
        exact hk55 ((nI 1), g1) hm _ _ _ hI (lv_sub hl [2, 3, 4, 1, 5, 0] rfl)
theorem r_Model_worksAlike_55 {p : Program} {l : Launch} {e : Env} {s : State} {m : MethodId} {args : Array Value} {below : List Frame} {meth : Method} {c : Code} {G : zG} {K : Nat} (X : zX p s m args meth c "AllHomeModel" prog_9_method_58_code 8 (some .boolean) G (zA G K)) {r : Int32} (a0 : Nat) (x3 : Int32) (x4 : Int32) (x6 : Int32) (h : zH) (k43 : (Int32 × Int32) → Option Int32) (hk43 : ∀ (w : Int32 × Int32), k43 w = some r → ∀ (H : Heap) (locs : List Loc) (ls : Array Slot), zI G K s (zA G K) H locs h → lv_has ls 8 [(0, .ref (G.1 a0)), (3, .int x3), (4, .int x4), (5, .int w.1), (6, .int w.2)] → W p l e (zR 0) s m args below meth c H locs 0 0 (MQ below (zQi G K r h) args s 0 0 (zA G K)) (F0 m 43 ls [])) : ∀ (n : Nat) (w : Int32 × Int32), zloop (g_Model_worksAlike_55 a0 x3 x4 x6 h k43) n w = some r → ∀ (H : Heap) (locs : List Loc) (ls : Array Slot), zI G K s (zA G K) H locs h → lv_has ls 8 [(0, .ref (G.1 a0)), (3, .int x3), (4, .int x4), (5, .int w.1), (6, .int x6), (7, .int w.2)] → W p l e (zR 0) s m args below meth c H locs 0 0 (MQ below (zQi G K r h) args s 0 0 (zA G K)) (F0 m 55 ls []) := by
  intro n
  induction n with
  | zero => intro w hm; cases hm
  | succ n ih => intro w hm H locs ls hI hl; exact r_Model_worksAlike_55_b X a0 x3 x4 x6 h k43 hk43 (zloop (g_Model_worksAlike_55 a0 x3 x4 x6 h k43) n) ih w (zls hm) hI hl
set_option maxHeartbeats 4000000 in
set_option maxRecDepth 100000 in
theorem r_Model_worksAlike_43_b {p : Program} {l : Launch} {e : Env} {s : State} {m : MethodId} {args : Array Value} {below : List Frame} {meth : Method} {c : Code} {G : zG} {K : Nat} (X : zX p s m args meth c "AllHomeModel" prog_9_method_58_code 8 (some .boolean) G (zA G K)) {r : Int32} (a0 : Nat) (x3 : Int32) (x4 : Int32) (h : zH) (k43 : (Int32 × Int32) → Option Int32) (hk43 : ∀ (w : Int32 × Int32), k43 w = some r → ∀ (H : Heap) (locs : List Loc) (ls : Array Slot), zI G K s (zA G K) H locs h → lv_has ls 8 [(0, .ref (G.1 a0)), (3, .int x3), (4, .int x4), (5, .int w.1), (6, .int w.2)] → W p l e (zR 0) s m args below meth c H locs 0 0 (MQ below (zQi G K r h) args s 0 0 (zA G K)) (F0 m 43 ls [])) (u : Int32 × Int32) (hm : g_Model_worksAlike_43 a0 x3 x4 h k43 u = some r) {H : Heap} {locs : List Loc} {ls : Array Slot} (hI : zI G K s (zA G K) H locs h) (hl : lv_has ls 8 [(0, .ref (G.1 a0)), (3, .int x3), (4, .int x4), (5, .int u.1), (6, .int u.2)]) : W p l e (zR 0) s m args below meth c H locs 0 0 (MQ below (zQi G K r h) args s 0 0 (zA G K)) (F0 m 43 ls []) := by
  obtain ⟨hx, hb, hml, hown, hts, hr, hlocks, hK, hST, hNs⟩ := id X
  unfold g_Model_worksAlike_43 at hm
  refine lv_iload hx hb d_Model_worksAlike_43 (lv_at hl 4 rfl) ?_
  refine lv_aload_n hx hb d_Model_worksAlike_45 rfl (lv_at hl 0 rfl) ?_
  obtain ⟨v46, hv, hm⟩ := zbd hm
  refine z_getI X hI F_Model_78 hv d_Model_worksAlike_46 ?_
  refine lv_icmp_ge (tgt := 119) hx hb d_Model_worksAlike_49 (by decide) (fun hc49 => ?_) (fun hc49 => ?_)
  · replace hm := zif_t hc49 hm
    refine lv_iconst (v := (nI 0)) hx hb d_Model_worksAlike_119 (by decide) ?_
    refine lv_istore (lv' := [(6, .int (nI 0)), (0, .ref (G.1 a0)), (3, .int x3), (4, .int x4), (5, .int u.1)]) hx hb d_Model_worksAlike_120 hl (by decide) rfl (fun ls hl => ?_)
    obtain ⟨g0, e0⟩ : ∃ z, z = u.1 := ⟨_, rfl⟩
    rw [← e0] at hm hl
    exact r_Model_worksAlike_122 X a0 x3 x4 h zN (g0, (nI 0)) hm _ _ _ hI (lv_sub hl [1, 2, 3, 4, 0] rfl)
  · replace hm := zif_f hc49 hm
    refine lv_iconst (v := (nI 0)) hx hb d_Model_worksAlike_52 (by decide) ?_
    refine lv_istore (lv' := [(7, .int (nI 0)), (0, .ref (G.1 a0)), (3, .int x3), (4, .int x4), (5, .int u.1), (6, .int u.2)]) hx hb d_Model_worksAlike_53 hl (by decide) rfl (fun ls hl => ?_)
    obtain ⟨g0, e0⟩ : ∃ z, z = u.1 := ⟨_, rfl⟩
    rw [← e0] at hm hl
    exact r_Model_worksAlike_55 X a0 x3 x4 u.2 h k43 hk43 zN (g0, (nI 0)) hm _ _ _ hI (lv_sub hl [1, 2, 3, 4, 5, 0] rfl)
theorem r_Model_worksAlike_43 {p : Program} {l : Launch} {e : Env} {s : State} {m : MethodId} {args : Array Value} {below : List Frame} {meth : Method} {c : Code} {G : zG} {K : Nat} (X : zX p s m args meth c "AllHomeModel" prog_9_method_58_code 8 (some .boolean) G (zA G K)) {r : Int32} (a0 : Nat) (x3 : Int32) (x4 : Int32) (h : zH) : ∀ (n : Nat) (w : Int32 × Int32), zloop (g_Model_worksAlike_43 a0 x3 x4 h) n w = some r → ∀ (H : Heap) (locs : List Loc) (ls : Array Slot), zI G K s (zA G K) H locs h → lv_has ls 8 [(0, .ref (G.1 a0)), (3, .int x3), (4, .int x4), (5, .int w.1), (6, .int w.2)] → W p l e (zR 0) s m args below meth c H locs 0 0 (MQ below (zQi G K r h) args s 0 0 (zA G K)) (F0 m 43 ls []) := by
  intro n
  induction n with
  | zero => intro w hm; cases hm
  | succ n ih => intro w hm H locs ls hI hl; exact r_Model_worksAlike_43_b X a0 x3 x4 h (zloop (g_Model_worksAlike_43 a0 x3 x4 h) n) ih w (zls hm) hI hl
set_option maxHeartbeats 4000000 in
set_option maxRecDepth 100000 in
theorem r_Model_worksAlike_0 {p : Program} {l : Launch} {e : Env} {s : State} {m : MethodId} {args : Array Value} {below : List Frame} {meth : Method} {c : Code} {G : zG} {K : Nat} (X : zX p s m args meth c "AllHomeModel" prog_9_method_58_code 8 (some .boolean) G (zA G K)) {r : Int32} (a0 : Nat) (x1 : Int32) (x2 : Int32) (h : zH) (hm : m_Model_worksAlike a0 x1 x2 h = some r) {H : Heap} {locs : List Loc} {ls : Array Slot} (hI : zI G K s (zA G K) H locs h) (hl : lv_has ls 8 [(0, .ref (G.1 a0)), (1, .int x1), (2, .int x2)]) : W p l e (zR 0) s m args below meth c H locs 0 0 (MQ below (zQi G K r h) args s 0 0 (zA G K)) (F0 m 0 ls []) := by
  obtain ⟨hx, hb, hml, hown, hts, hr, hlocks, hK, hST, hNs⟩ := id X
  unfold m_Model_worksAlike at hm
  refine lv_bipush (v := (nI 91)) hx hb d_Model_worksAlike_0 (by decide) ?_
  refine lv_iload_n hx hb d_Model_worksAlike_2 rfl (lv_at hl 1 rfl) ?_
  refine lv_imul hx hb d_Model_worksAlike_3 ?_
  refine lv_istore_n (lv' := [(3, .int ((nI 91) * x1)), (0, .ref (G.1 a0)), (1, .int x1), (2, .int x2)]) hx hb d_Model_worksAlike_4 rfl hl (by decide) rfl (fun ls hl => ?_)
  refine lv_bipush (v := (nI 91)) hx hb d_Model_worksAlike_5 (by decide) ?_
  refine lv_iload_n hx hb d_Model_worksAlike_7 rfl (lv_at hl 3 rfl) ?_
  refine lv_imul hx hb d_Model_worksAlike_8 ?_
  refine lv_istore (lv' := [(4, .int ((nI 91) * x2)), (3, .int ((nI 91) * x1)), (0, .ref (G.1 a0)), (1, .int x1), (2, .int x2)]) hx hb d_Model_worksAlike_9 hl (by decide) rfl (fun ls hl => ?_)
  refine lv_aload_n hx hb d_Model_worksAlike_11 rfl (lv_at hl 2 rfl) ?_
  obtain ⟨v12, hv, hm⟩ := zbd hm
  refine z_getR X hI F_Model_46 hv d_Model_worksAlike_12 ?_
  refine lv_iload_n hx hb d_Model_worksAlike_15 rfl (lv_at hl 1 rfl) ?_
  refine lv_bipush (v := (nI 36)) hx hb d_Model_worksAlike_16 (by decide) ?_
  refine lv_iadd hx hb d_Model_worksAlike_18 ?_
  obtain ⟨v19, hv, hm⟩ := zbd hm
  refine z_iald X hI hv d_Model_worksAlike_19 ?_
  refine lv_aload_n hx hb d_Model_worksAlike_20 rfl (lv_at hl 2 rfl) ?_
  obtain ⟨v21, hv, hm⟩ := zbd hm
  refine z_getR X hI F_Model_46 hv d_Model_worksAlike_21 ?_
  refine lv_iload hx hb d_Model_worksAlike_24 (lv_at hl 0 rfl) ?_
  refine lv_bipush (v := (nI 36)) hx hb d_Model_worksAlike_26 (by decide) ?_
  refine lv_iadd hx hb d_Model_worksAlike_28 ?_
  obtain ⟨v29, hv, hm⟩ := zbd hm
  refine z_iald X hI hv d_Model_worksAlike_29 ?_
  refine lv_icmp_ne (tgt := 37) hx hb d_Model_worksAlike_30 (by decide) (fun hc30 => ?_) (fun hc30 => ?_)
  · replace hm := zif_f hc30 hm
    refine lv_iconst (v := (nI 0)) hx hb d_Model_worksAlike_37 (by decide) ?_
    refine lv_istore (lv' := [(5, .int (nI 0)), (4, .int ((nI 91) * x2)), (3, .int ((nI 91) * x1)), (0, .ref (G.1 a0)), (1, .int x1), (2, .int x2)]) hx hb d_Model_worksAlike_38 hl (by decide) rfl (fun ls hl => ?_)
    refine lv_iconst (v := (nI 0)) hx hb d_Model_worksAlike_40 (by decide) ?_
    refine lv_istore (lv' := [(6, .int (nI 0)), (5, .int (nI 0)), (4, .int ((nI 91) * x2)), (3, .int ((nI 91) * x1)), (0, .ref (G.1 a0)), (1, .int x1), (2, .int x2)]) hx hb d_Model_worksAlike_41 hl (by decide) rfl (fun ls hl => ?_)
    exact r_Model_worksAlike_43 X a0 ((nI 91) * x1) ((nI 91) * x2) h zN ((nI 0), (nI 0)) hm _ _ _ hI (lv_sub hl [4, 3, 2, 1, 0] rfl)
  · replace hm := zif_t hc30 hm
    refine lv_iconst (v := (nI 1)) hx hb d_Model_worksAlike_33 (by decide) ?_
    refine lv_goto (tgt := 38) hx hb d_Model_worksAlike_34 (by decide) ?_
    refine lv_istore (lv' := [(5, .int (nI 1)), (4, .int ((nI 91) * x2)), (3, .int ((nI 91) * x1)), (0, .ref (G.1 a0)), (1, .int x1), (2, .int x2)]) hx hb d_Model_worksAlike_38 hl (by decide) rfl (fun ls hl => ?_)
    refine lv_iconst (v := (nI 0)) hx hb d_Model_worksAlike_40 (by decide) ?_
    refine lv_istore (lv' := [(6, .int (nI 0)), (5, .int (nI 1)), (4, .int ((nI 91) * x2)), (3, .int ((nI 91) * x1)), (0, .ref (G.1 a0)), (1, .int x1), (2, .int x2)]) hx hb d_Model_worksAlike_41 hl (by decide) rfl (fun ls hl => ?_)
    exact r_Model_worksAlike_43 X a0 ((nI 91) * x1) ((nI 91) * x2) h zN ((nI 1), (nI 0)) hm _ _ _ hI (lv_sub hl [4, 3, 2, 1, 0] rfl)
set_option maxHeartbeats 4000000 in
set_option maxRecDepth 100000 in
theorem c_Model_worksAlike (l : Launch) (G : zG) (K : Nat) (a0 : Nat) (x1 : Int32) (x2 : Int32) (h : zH) (r : Int32) (hm : m_Model_worksAlike a0 x1 x2 h = some r) : zMz l G K y_Model_worksAlike prog_9_method_58_code 8 0 [.ref (G.1 a0), .int x1, .int x2] h r h := zMet (by decide +kernel) (Nat.le_of_ble_eq_true rfl) (fun p e s m below meth c ls X hI hl => r_Model_worksAlike_0 X a0 x1 x2 h hm hI hl)
-- walk of AllHomeModel.workMany
theorem d_Model_workMany_0 : decode prog_9_method_59_code 0 = .ok (.iconst 0, 1) := by decide +kernel
theorem d_Model_workMany_1 : decode prog_9_method_59_code 1 = .ok (.istore_n 1, 1) := by decide +kernel
theorem d_Model_workMany_2 : decode prog_9_method_59_code 2 = .ok (.iconst 0, 1) := by decide +kernel
theorem d_Model_workMany_3 : decode prog_9_method_59_code 3 = .ok (.istore_n 2, 1) := by decide +kernel
theorem d_Model_workMany_4 : decode prog_9_method_59_code 4 = .ok (.iload_n 2, 1) := by decide +kernel
theorem d_Model_workMany_5 : decode prog_9_method_59_code 5 = .ok (.aload_n 0, 1) := by decide +kernel
theorem d_Model_workMany_6 : decode prog_9_method_59_code 6 = .ok (.getfield 234, 3) := by decide +kernel
theorem d_Model_workMany_9 : decode prog_9_method_59_code 9 = .ok (.if_icmp .ge 58, 3) := by decide +kernel
theorem d_Model_workMany_12 : decode prog_9_method_59_code 12 = .ok (.iconst 1, 1) := by decide +kernel
theorem d_Model_workMany_13 : decode prog_9_method_59_code 13 = .ok (.istore_n 3, 1) := by decide +kernel
theorem d_Model_workMany_14 : decode prog_9_method_59_code 14 = .ok (.iconst 0, 1) := by decide +kernel
theorem d_Model_workMany_15 : decode prog_9_method_59_code 15 = .ok (.istore 4, 2) := by decide +kernel
theorem d_Model_workMany_17 : decode prog_9_method_59_code 17 = .ok (.iload 4, 2) := by decide +kernel
theorem d_Model_workMany_19 : decode prog_9_method_59_code 19 = .ok (.iload_n 2, 1) := by decide +kernel
theorem d_Model_workMany_20 : decode prog_9_method_59_code 20 = .ok (.if_icmp .ge 29, 3) := by decide +kernel
theorem d_Model_workMany_23 : decode prog_9_method_59_code 23 = .ok (.iload_n 3, 1) := by decide +kernel
theorem d_Model_workMany_24 : decode prog_9_method_59_code 24 = .ok (.ifCond .eq 17, 3) := by decide +kernel
theorem d_Model_workMany_27 : decode prog_9_method_59_code 27 = .ok (.aload_n 0, 1) := by decide +kernel
theorem d_Model_workMany_28 : decode prog_9_method_59_code 28 = .ok (.iload_n 2, 1) := by decide +kernel
theorem d_Model_workMany_29 : decode prog_9_method_59_code 29 = .ok (.iload 4, 2) := by decide +kernel
theorem d_Model_workMany_31 : decode prog_9_method_59_code 31 = .ok (.invokevirtual 258, 3) := by decide +kernel
theorem d_Model_workMany_34 : decode prog_9_method_59_code 34 = .ok (.ifCond .ne 7, 3) := by decide +kernel
theorem d_Model_workMany_37 : decode prog_9_method_59_code 37 = .ok (.iconst 1, 1) := by decide +kernel
theorem d_Model_workMany_38 : decode prog_9_method_59_code 38 = .ok (.goto 4, 3) := by decide +kernel
theorem d_Model_workMany_41 : decode prog_9_method_59_code 41 = .ok (.iconst 0, 1) := by decide +kernel
theorem d_Model_workMany_42 : decode prog_9_method_59_code 42 = .ok (.istore_n 3, 1) := by decide +kernel
theorem d_Model_workMany_43 : decode prog_9_method_59_code 43 = .ok (.iinc 4 1, 3) := by decide +kernel
theorem d_Model_workMany_46 : decode prog_9_method_59_code 46 = .ok (.goto (-29), 3) := by decide +kernel
theorem d_Model_workMany_49 : decode prog_9_method_59_code 49 = .ok (.iload_n 1, 1) := by decide +kernel
theorem d_Model_workMany_50 : decode prog_9_method_59_code 50 = .ok (.iload_n 3, 1) := by decide +kernel
theorem d_Model_workMany_51 : decode prog_9_method_59_code 51 = .ok (.ifCond .eq 7, 3) := by decide +kernel
theorem d_Model_workMany_54 : decode prog_9_method_59_code 54 = .ok (.iconst 1, 1) := by decide +kernel
theorem d_Model_workMany_55 : decode prog_9_method_59_code 55 = .ok (.goto 4, 3) := by decide +kernel
theorem d_Model_workMany_58 : decode prog_9_method_59_code 58 = .ok (.iconst 0, 1) := by decide +kernel
theorem d_Model_workMany_59 : decode prog_9_method_59_code 59 = .ok (.iadd, 1) := by decide +kernel
theorem d_Model_workMany_60 : decode prog_9_method_59_code 60 = .ok (.istore_n 1, 1) := by decide +kernel
theorem d_Model_workMany_61 : decode prog_9_method_59_code 61 = .ok (.iinc 2 1, 3) := by decide +kernel
theorem d_Model_workMany_64 : decode prog_9_method_59_code 64 = .ok (.goto (-60), 3) := by decide +kernel
theorem d_Model_workMany_67 : decode prog_9_method_59_code 67 = .ok (.iload_n 1, 1) := by decide +kernel
theorem d_Model_workMany_68 : decode prog_9_method_59_code 68 = .ok (.ireturn, 1) := by decide +kernel
set_option maxHeartbeats 4000000 in
set_option maxRecDepth 100000 in
theorem r_Model_workMany_17_b {p : Program} {l : Launch} {e : Env} {s : State} {m : MethodId} {args : Array Value} {below : List Frame} {meth : Method} {c : Code} {G : zG} {K : Nat} (X : zX p s m args meth c "AllHomeModel" prog_9_method_59_code 5 (some .int) G (zA G K)) {r : Int32} (a0 : Nat) (x1 : Int32) (x2 : Int32) (h : zH) (k4 : (Int32 × Int32) → Option Int32) (hk4 : ∀ (w : Int32 × Int32), k4 w = some r → ∀ (H : Heap) (locs : List Loc) (ls : Array Slot), zI G K s (zA G K) H locs h → lv_has ls 5 [(0, .ref (G.1 a0)), (1, .int w.1), (2, .int w.2)] → W p l e (zR 1) s m args below meth c H locs 0 0 (MQ below (zQi G K r h) args s 0 0 (zA G K)) (F0 m 4 ls [])) (k17 : (Int32 × Int32) → Option Int32) (hk17 : ∀ (w : Int32 × Int32), k17 w = some r → ∀ (H : Heap) (locs : List Loc) (ls : Array Slot), zI G K s (zA G K) H locs h → lv_has ls 5 [(0, .ref (G.1 a0)), (1, .int x1), (2, .int x2), (3, .int w.1), (4, .int w.2)] → W p l e (zR 1) s m args below meth c H locs 0 0 (MQ below (zQi G K r h) args s 0 0 (zA G K)) (F0 m 17 ls [])) (u : Int32 × Int32) (hm : g_Model_workMany_17 a0 x1 x2 h k4 k17 u = some r) {H : Heap} {locs : List Loc} {ls : Array Slot} (hI : zI G K s (zA G K) H locs h) (hl : lv_has ls 5 [(0, .ref (G.1 a0)), (1, .int x1), (2, .int x2), (3, .int u.1), (4, .int u.2)]) : W p l e (zR 1) s m args below meth c H locs 0 0 (MQ below (zQi G K r h) args s 0 0 (zA G K)) (F0 m 17 ls []) := by
  obtain ⟨hx, hb, hml, hown, hts, hr, hlocks, hK, hST, hNs⟩ := id X
  unfold g_Model_workMany_17 at hm
  refine lv_iload hx hb d_Model_workMany_17 (lv_at hl 4 rfl) ?_
  refine lv_iload_n hx hb d_Model_workMany_19 rfl (lv_at hl 2 rfl) ?_
  refine lv_icmp_ge (tgt := 49) hx hb d_Model_workMany_20 (by decide) (fun hc20 => ?_) (fun hc20 => ?_)
  · replace hm := zif_t hc20 hm
    refine lv_iload_n hx hb d_Model_workMany_49 rfl (lv_at hl 1 rfl) ?_
    refine lv_iload_n hx hb d_Model_workMany_50 rfl (lv_at hl 3 rfl) ?_
    refine lv_if_eq (tgt := 58) hx hb d_Model_workMany_51 (by decide) (fun hc51 => ?_) (fun hc51 => ?_)
    · replace hm := zif_t hc51 hm
      refine lv_iconst (v := (nI 0)) hx hb d_Model_workMany_58 (by decide) ?_
      refine lv_iadd hx hb d_Model_workMany_59 ?_
      refine lv_istore_n (lv' := [(1, .int (x1 + (nI 0))), (0, .ref (G.1 a0)), (2, .int x2), (3, .int u.1), (4, .int u.2)]) hx hb d_Model_workMany_60 rfl hl (by decide) rfl (fun ls hl => ?_)
      refine lv_iinc (v := (x2 + (nI 1))) (lv' := [(2, .int (x2 + (nI 1))), (1, .int (x1 + (nI 0))), (0, .ref (G.1 a0)), (3, .int u.1), (4, .int u.2)]) hx hb d_Model_workMany_61 hl (k := 2) rfl (congrArg (fun z => x2 + z) (show Int32.ofInt (1) = (nI 1) by decide)) (by decide) rfl (fun ls hl => ?_)
      refine lv_goto (tgt := 4) hx hb d_Model_workMany_64 (by decide) ?_
      obtain ⟨g0, e0⟩ : ∃ z, z = (x1 + (nI 0)) := ⟨_, rfl⟩
      rw [← e0] at hm hl
      obtain ⟨g1, e1⟩ : ∃ z, z = (x2 + (nI 1)) := ⟨_, rfl⟩
      rw [← e1] at hm hl
      exact hk4 (g0, g1) hm _ _ _ hI (lv_sub hl [2, 1, 0] rfl)
    · replace hm := zif_f hc51 hm
      refine lv_iconst (v := (nI 1)) hx hb d_Model_workMany_54 (by decide) ?_
      refine lv_goto (tgt := 59) hx hb d_Model_workMany_55 (by decide) ?_
      refine lv_iadd hx hb d_Model_workMany_59 ?_
      refine lv_istore_n (lv' := [(1, .int (x1 + (nI 1))), (0, .ref (G.1 a0)), (2, .int x2), (3, .int u.1), (4, .int u.2)]) hx hb d_Model_workMany_60 rfl hl (by decide) rfl (fun ls hl => ?_)
      refine lv_iinc (v := (x2 + (nI 1))) (lv' := [(2, .int (x2 + (nI 1))), (1, .int (x1 + (nI 1))), (0, .ref (G.1 a0)), (3, .int u.1), (4, .int u.2)]) hx hb d_Model_workMany_61 hl (k := 2) rfl (congrArg (fun z => x2 + z) (show Int32.ofInt (1) = (nI 1) by decide)) (by decide) rfl (fun ls hl => ?_)
      refine lv_goto (tgt := 4) hx hb d_Model_workMany_64 (by decide) ?_
      obtain ⟨g0, e0⟩ : ∃ z, z = (x1 + (nI 1)) := ⟨_, rfl⟩
      rw [← e0] at hm hl
      obtain ⟨g1, e1⟩ : ∃ z, z = (x2 + (nI 1)) := ⟨_, rfl⟩
      rw [← e1] at hm hl
      exact hk4 (g0, g1) hm _ _ _ hI (lv_sub hl [2, 1, 0] rfl)
  · replace hm := zif_f hc20 hm
    refine lv_iload_n hx hb d_Model_workMany_23 rfl (lv_at hl 3 rfl) ?_
    refine lv_if_eq (tgt := 41) hx hb d_Model_workMany_24 (by decide) (fun hc24 => ?_) (fun hc24 => ?_)
    · replace hm := zif_t hc24 hm
      refine lv_iconst (v := (nI 0)) hx hb d_Model_workMany_41 (by decide) ?_
      refine lv_istore_n (lv' := [(3, .int (nI 0)), (0, .ref (G.1 a0)), (1, .int x1), (2, .int x2), (4, .int u.2)]) hx hb d_Model_workMany_42 rfl hl (by decide) rfl (fun ls hl => ?_)
      refine lv_iinc (v := (u.2 + (nI 1))) (lv' := [(4, .int (u.2 + (nI 1))), (3, .int (nI 0)), (0, .ref (G.1 a0)), (1, .int x1), (2, .int x2)]) hx hb d_Model_workMany_43 hl (k := 4) rfl (congrArg (fun z => u.2 + z) (show Int32.ofInt (1) = (nI 1) by decide)) (by decide) rfl (fun ls hl => ?_)
      refine lv_goto (tgt := 17) hx hb d_Model_workMany_46 (by decide) ?_
      obtain ⟨g1, e1⟩ : ∃ z, z = (u.2 + (nI 1)) := ⟨_, rfl⟩
      rw [← e1] at hm hl
      exact hk17 ((nI 0), g1) hm _ _ _ hI (lv_sub hl [2, 3, 4, 1, 0] rfl)
    · replace hm := zif_f hc24 hm
      refine lv_aload_n hx hb d_Model_workMany_27 rfl (lv_at hl 0 rfl) ?_
      refine lv_iload_n hx hb d_Model_workMany_28 rfl (lv_at hl 2 rfl) ?_
      refine lv_iload hx hb d_Model_workMany_29 (lv_at hl 4 rfl) ?_
      obtain ⟨v31, hv, hm⟩ := zbd hm
      obtain ⟨hq, hv⟩ := zcv_at hv
      refine z_ci hI (z_runV (As := [.int x2, .int u.2]) (rest := []) X hI hl.1 (c_Model_worksAlike l G K a0 x2 u.2 h _ hv) C_Model_258 rfl hq (Nat.le_of_ble_eq_true rfl) ⟨Nat.le_of_ble_eq_true rfl, Nat.le_of_ble_eq_true rfl, Nat.zero_le _, Nat.zero_le _⟩ rfl d_Model_workMany_31) (fun H locs hI => ?_)
      refine lv_if_ne (tgt := 41) hx hb d_Model_workMany_34 (by decide) (fun hc34 => ?_) (fun hc34 => ?_)
      · replace hm := zif_f hc34 hm
        refine lv_iconst (v := (nI 0)) hx hb d_Model_workMany_41 (by decide) ?_
        refine lv_istore_n (lv' := [(3, .int (nI 0)), (0, .ref (G.1 a0)), (1, .int x1), (2, .int x2), (4, .int u.2)]) hx hb d_Model_workMany_42 rfl hl (by decide) rfl (fun ls hl => ?_)
        refine lv_iinc (v := (u.2 + (nI 1))) (lv' := [(4, .int (u.2 + (nI 1))), (3, .int (nI 0)), (0, .ref (G.1 a0)), (1, .int x1), (2, .int x2)]) hx hb d_Model_workMany_43 hl (k := 4) rfl (congrArg (fun z => u.2 + z) (show Int32.ofInt (1) = (nI 1) by decide)) (by decide) rfl (fun ls hl => ?_)
        refine lv_goto (tgt := 17) hx hb d_Model_workMany_46 (by decide) ?_
        obtain ⟨g1, e1⟩ : ∃ z, z = (u.2 + (nI 1)) := ⟨_, rfl⟩
        rw [← e1] at hm hl
        exact hk17 ((nI 0), g1) hm _ _ _ hI (lv_sub hl [2, 3, 4, 1, 0] rfl)
      · replace hm := zif_t hc34 hm
        refine lv_iconst (v := (nI 1)) hx hb d_Model_workMany_37 (by decide) ?_
        refine lv_goto (tgt := 42) hx hb d_Model_workMany_38 (by decide) ?_
        refine lv_istore_n (lv' := [(3, .int (nI 1)), (0, .ref (G.1 a0)), (1, .int x1), (2, .int x2), (4, .int u.2)]) hx hb d_Model_workMany_42 rfl hl (by decide) rfl (fun ls hl => ?_)
        refine lv_iinc (v := (u.2 + (nI 1))) (lv' := [(4, .int (u.2 + (nI 1))), (3, .int (nI 1)), (0, .ref (G.1 a0)), (1, .int x1), (2, .int x2)]) hx hb d_Model_workMany_43 hl (k := 4) rfl (congrArg (fun z => u.2 + z) (show Int32.ofInt (1) = (nI 1) by decide)) (by decide) rfl (fun ls hl => ?_)
        refine lv_goto (tgt := 17) hx hb d_Model_workMany_46 (by decide) ?_
        obtain ⟨g1, e1⟩ : ∃ z, z = (u.2 + (nI 1)) := ⟨_, rfl⟩
        rw [← e1] at hm hl
        exact hk17 ((nI 1), g1) hm _ _ _ hI (lv_sub hl [2, 3, 4, 1, 0] rfl)
theorem r_Model_workMany_17 {p : Program} {l : Launch} {e : Env} {s : State} {m : MethodId} {args : Array Value} {below : List Frame} {meth : Method} {c : Code} {G : zG} {K : Nat} (X : zX p s m args meth c "AllHomeModel" prog_9_method_59_code 5 (some .int) G (zA G K)) {r : Int32} (a0 : Nat) (x1 : Int32) (x2 : Int32) (h : zH) (k4 : (Int32 × Int32) → Option Int32) (hk4 : ∀ (w : Int32 × Int32), k4 w = some r → ∀ (H : Heap) (locs : List Loc) (ls : Array Slot), zI G K s (zA G K) H locs h → lv_has ls 5 [(0, .ref (G.1 a0)), (1, .int w.1), (2, .int w.2)] → W p l e (zR 1) s m args below meth c H locs 0 0 (MQ below (zQi G K r h) args s 0 0 (zA G K)) (F0 m 4 ls [])) : ∀ (n : Nat) (w : Int32 × Int32), zloop (g_Model_workMany_17 a0 x1 x2 h k4) n w = some r → ∀ (H : Heap) (locs : List Loc) (ls : Array Slot), zI G K s (zA G K) H locs h → lv_has ls 5 [(0, .ref (G.1 a0)), (1, .int x1), (2, .int x2), (3, .int w.1), (4, .int w.2)] → W p l e (zR 1) s m args below meth c H locs 0 0 (MQ below (zQi G K r h) args s 0 0 (zA G K)) (F0 m 17 ls []) := by
  intro n
  induction n with
  | zero => intro w hm; cases hm
  | succ n ih => intro w hm H locs ls hI hl; exact r_Model_workMany_17_b X a0 x1 x2 h k4 hk4 (zloop (g_Model_workMany_17 a0 x1 x2 h k4) n) ih w (zls hm) hI hl
set_option maxHeartbeats 4000000 in
set_option maxRecDepth 100000 in
theorem r_Model_workMany_4_b {p : Program} {l : Launch} {e : Env} {s : State} {m : MethodId} {args : Array Value} {below : List Frame} {meth : Method} {c : Code} {G : zG} {K : Nat} (X : zX p s m args meth c "AllHomeModel" prog_9_method_59_code 5 (some .int) G (zA G K)) {r : Int32} (a0 : Nat) (h : zH) (k4 : (Int32 × Int32) → Option Int32) (hk4 : ∀ (w : Int32 × Int32), k4 w = some r → ∀ (H : Heap) (locs : List Loc) (ls : Array Slot), zI G K s (zA G K) H locs h → lv_has ls 5 [(0, .ref (G.1 a0)), (1, .int w.1), (2, .int w.2)] → W p l e (zR 1) s m args below meth c H locs 0 0 (MQ below (zQi G K r h) args s 0 0 (zA G K)) (F0 m 4 ls [])) (u : Int32 × Int32) (hm : g_Model_workMany_4 a0 h k4 u = some r) {H : Heap} {locs : List Loc} {ls : Array Slot} (hI : zI G K s (zA G K) H locs h) (hl : lv_has ls 5 [(0, .ref (G.1 a0)), (1, .int u.1), (2, .int u.2)]) : W p l e (zR 1) s m args below meth c H locs 0 0 (MQ below (zQi G K r h) args s 0 0 (zA G K)) (F0 m 4 ls []) := by
  obtain ⟨hx, hb, hml, hown, hts, hr, hlocks, hK, hST, hNs⟩ := id X
  unfold g_Model_workMany_4 at hm
  refine lv_iload_n hx hb d_Model_workMany_4 rfl (lv_at hl 2 rfl) ?_
  refine lv_aload_n hx hb d_Model_workMany_5 rfl (lv_at hl 0 rfl) ?_
  obtain ⟨v6, hv, hm⟩ := zbd hm
  refine z_getI X hI F_Model_234 hv d_Model_workMany_6 ?_
  refine lv_icmp_ge (tgt := 67) hx hb d_Model_workMany_9 (by decide) (fun hc9 => ?_) (fun hc9 => ?_)
  · replace hm := zif_t hc9 hm
    refine lv_iload_n hx hb d_Model_workMany_67 rfl (lv_at hl 1 rfl) ?_
    obtain rfl := zs1 hm
    exact z_iret X hI d_Model_workMany_68
  · replace hm := zif_f hc9 hm
    refine lv_iconst (v := (nI 1)) hx hb d_Model_workMany_12 (by decide) ?_
    refine lv_istore_n (lv' := [(3, .int (nI 1)), (0, .ref (G.1 a0)), (1, .int u.1), (2, .int u.2)]) hx hb d_Model_workMany_13 rfl hl (by decide) rfl (fun ls hl => ?_)
    refine lv_iconst (v := (nI 0)) hx hb d_Model_workMany_14 (by decide) ?_
    refine lv_istore (lv' := [(4, .int (nI 0)), (3, .int (nI 1)), (0, .ref (G.1 a0)), (1, .int u.1), (2, .int u.2)]) hx hb d_Model_workMany_15 hl (by decide) rfl (fun ls hl => ?_)
    exact r_Model_workMany_17 X a0 u.1 u.2 h k4 hk4 zN ((nI 1), (nI 0)) hm _ _ _ hI (lv_sub hl [2, 3, 4, 1, 0] rfl)
theorem r_Model_workMany_4 {p : Program} {l : Launch} {e : Env} {s : State} {m : MethodId} {args : Array Value} {below : List Frame} {meth : Method} {c : Code} {G : zG} {K : Nat} (X : zX p s m args meth c "AllHomeModel" prog_9_method_59_code 5 (some .int) G (zA G K)) {r : Int32} (a0 : Nat) (h : zH) : ∀ (n : Nat) (w : Int32 × Int32), zloop (g_Model_workMany_4 a0 h) n w = some r → ∀ (H : Heap) (locs : List Loc) (ls : Array Slot), zI G K s (zA G K) H locs h → lv_has ls 5 [(0, .ref (G.1 a0)), (1, .int w.1), (2, .int w.2)] → W p l e (zR 1) s m args below meth c H locs 0 0 (MQ below (zQi G K r h) args s 0 0 (zA G K)) (F0 m 4 ls []) := by
  intro n
  induction n with
  | zero => intro w hm; cases hm
  | succ n ih => intro w hm H locs ls hI hl; exact r_Model_workMany_4_b X a0 h (zloop (g_Model_workMany_4 a0 h) n) ih w (zls hm) hI hl
set_option maxHeartbeats 4000000 in
set_option maxRecDepth 100000 in
theorem r_Model_workMany_0 {p : Program} {l : Launch} {e : Env} {s : State} {m : MethodId} {args : Array Value} {below : List Frame} {meth : Method} {c : Code} {G : zG} {K : Nat} (X : zX p s m args meth c "AllHomeModel" prog_9_method_59_code 5 (some .int) G (zA G K)) {r : Int32} (a0 : Nat) (h : zH) (hm : m_Model_workMany a0 h = some r) {H : Heap} {locs : List Loc} {ls : Array Slot} (hI : zI G K s (zA G K) H locs h) (hl : lv_has ls 5 [(0, .ref (G.1 a0))]) : W p l e (zR 1) s m args below meth c H locs 0 0 (MQ below (zQi G K r h) args s 0 0 (zA G K)) (F0 m 0 ls []) := by
  obtain ⟨hx, hb, hml, hown, hts, hr, hlocks, hK, hST, hNs⟩ := id X
  unfold m_Model_workMany at hm
  refine lv_iconst (v := (nI 0)) hx hb d_Model_workMany_0 (by decide) ?_
  refine lv_istore_n (lv' := [(1, .int (nI 0)), (0, .ref (G.1 a0))]) hx hb d_Model_workMany_1 rfl hl (by decide) rfl (fun ls hl => ?_)
  refine lv_iconst (v := (nI 0)) hx hb d_Model_workMany_2 (by decide) ?_
  refine lv_istore_n (lv' := [(2, .int (nI 0)), (1, .int (nI 0)), (0, .ref (G.1 a0))]) hx hb d_Model_workMany_3 rfl hl (by decide) rfl (fun ls hl => ?_)
  exact r_Model_workMany_4 X a0 h zN ((nI 0), (nI 0)) hm _ _ _ hI (lv_sub hl [2, 1, 0] rfl)
set_option maxHeartbeats 4000000 in
set_option maxRecDepth 100000 in
theorem c_Model_workMany (l : Launch) (G : zG) (K : Nat) (a0 : Nat) (h : zH) (r : Int32) (hm : m_Model_workMany a0 h = some r) : zMi l G K y_Model_workMany prog_9_method_59_code 5 1 [.ref (G.1 a0)] h r h := zMet (by decide +kernel) (Nat.le_of_ble_eq_true rfl) (fun p e s m below meth c ls X hI hl => r_Model_workMany_0 X a0 h hm hI hl)
-- walk of AllHomeModel.work
theorem d_Model_work_0 : decode prog_9_method_60_code 0 = .ok (.aload_n 0, 1) := by decide +kernel
theorem d_Model_work_1 : decode prog_9_method_60_code 1 = .ok (.iload_n 1, 1) := by decide +kernel
theorem d_Model_work_2 : decode prog_9_method_60_code 2 = .ok (.invokevirtual 128, 3) := by decide +kernel
theorem d_Model_work_5 : decode prog_9_method_60_code 5 = .ok (.ifCond .eq 13, 3) := by decide +kernel
theorem d_Model_work_8 : decode prog_9_method_60_code 8 = .ok (.iload_n 2, 1) := by decide +kernel
theorem d_Model_work_9 : decode prog_9_method_60_code 9 = .ok (.i2l, 1) := by decide +kernel
theorem d_Model_work_10 : decode prog_9_method_60_code 10 = .ok (.lconst 0, 1) := by decide +kernel
theorem d_Model_work_11 : decode prog_9_method_60_code 11 = .ok (.lconst 1, 1) := by decide +kernel
theorem d_Model_work_12 : decode prog_9_method_60_code 12 = .ok (.invokestatic 87, 3) := by decide +kernel
theorem d_Model_work_15 : decode prog_9_method_60_code 15 = .ok (.ifCond .ne 5, 3) := by decide +kernel
theorem d_Model_work_18 : decode prog_9_method_60_code 18 = .ok (.iconst (-1), 1) := by decide +kernel
theorem d_Model_work_19 : decode prog_9_method_60_code 19 = .ok (.ireturn, 1) := by decide +kernel
theorem d_Model_work_20 : decode prog_9_method_60_code 20 = .ok (.aload_n 0, 1) := by decide +kernel
theorem d_Model_work_21 : decode prog_9_method_60_code 21 = .ok (.iload_n 1, 1) := by decide +kernel
theorem d_Model_work_22 : decode prog_9_method_60_code 22 = .ok (.invokevirtual 252, 3) := by decide +kernel
theorem d_Model_work_25 : decode prog_9_method_60_code 25 = .ok (.istore_n 3, 1) := by decide +kernel
theorem d_Model_work_26 : decode prog_9_method_60_code 26 = .ok (.iload_n 3, 1) := by decide +kernel
theorem d_Model_work_27 : decode prog_9_method_60_code 27 = .ok (.ifCond .ge 5, 3) := by decide +kernel
theorem d_Model_work_30 : decode prog_9_method_60_code 30 = .ok (.iload_n 3, 1) := by decide +kernel
theorem d_Model_work_31 : decode prog_9_method_60_code 31 = .ok (.ireturn, 1) := by decide +kernel
theorem d_Model_work_32 : decode prog_9_method_60_code 32 = .ok (.aload_n 0, 1) := by decide +kernel
theorem d_Model_work_33 : decode prog_9_method_60_code 33 = .ok (.invokevirtual 261, 3) := by decide +kernel
theorem d_Model_work_36 : decode prog_9_method_60_code 36 = .ok (.istore 4, 2) := by decide +kernel
theorem d_Model_work_38 : decode prog_9_method_60_code 38 = .ok (.iload_n 2, 1) := by decide +kernel
theorem d_Model_work_39 : decode prog_9_method_60_code 39 = .ok (.ifCond .ne 6, 3) := by decide +kernel
theorem d_Model_work_42 : decode prog_9_method_60_code 42 = .ok (.iload 4, 2) := by decide +kernel
theorem d_Model_work_44 : decode prog_9_method_60_code 44 = .ok (.ireturn, 1) := by decide +kernel
theorem d_Model_work_45 : decode prog_9_method_60_code 45 = .ok (.aload_n 0, 1) := by decide +kernel
theorem d_Model_work_46 : decode prog_9_method_60_code 46 = .ok (.iconst 0, 1) := by decide +kernel
theorem d_Model_work_47 : decode prog_9_method_60_code 47 = .ok (.invokevirtual 249, 3) := by decide +kernel
theorem d_Model_work_50 : decode prog_9_method_60_code 50 = .ok (.istore_n 3, 1) := by decide +kernel
theorem d_Model_work_51 : decode prog_9_method_60_code 51 = .ok (.iload_n 3, 1) := by decide +kernel
theorem d_Model_work_52 : decode prog_9_method_60_code 52 = .ok (.ifCond .ge 7, 3) := by decide +kernel
theorem d_Model_work_55 : decode prog_9_method_60_code 55 = .ok (.iload_n 3, 1) := by decide +kernel
theorem d_Model_work_56 : decode prog_9_method_60_code 56 = .ok (.goto 17, 3) := by decide +kernel
theorem d_Model_work_59 : decode prog_9_method_60_code 59 = .ok (.iload 4, 2) := by decide +kernel
theorem d_Model_work_61 : decode prog_9_method_60_code 61 = .ok (.aload_n 0, 1) := by decide +kernel
theorem d_Model_work_62 : decode prog_9_method_60_code 62 = .ok (.invokevirtual 261, 3) := by decide +kernel
theorem d_Model_work_65 : decode prog_9_method_60_code 65 = .ok (.if_icmp .ne 7, 3) := by decide +kernel
theorem d_Model_work_68 : decode prog_9_method_60_code 68 = .ok (.iconst 1, 1) := by decide +kernel
theorem d_Model_work_69 : decode prog_9_method_60_code 69 = .ok (.goto 4, 3) := by decide +kernel
theorem d_Model_work_72 : decode prog_9_method_60_code 72 = .ok (.iconst 0, 1) := by decide +kernel
theorem d_Model_work_73 : decode prog_9_method_60_code 73 = .ok (.ireturn, 1) := by decide +kernel
set_option maxHeartbeats 4000000 in
set_option maxRecDepth 100000 in
theorem r_Model_work_0 {p : Program} {l : Launch} {e : Env} {s : State} {m : MethodId} {args : Array Value} {below : List Frame} {meth : Method} {c : Code} {G : zG} {K : Nat} (X : zX p s m args meth c "AllHomeModel" prog_9_method_60_code 5 (some .int) G (zA G K)) {r : Int32} {h' : zH} (a0 : Nat) (x1 : Int32) (x2 : Int32) (h : zH) (hm : m_Model_work a0 x1 x2 h = some (r, h')) {H : Heap} {locs : List Loc} {ls : Array Slot} (hI : zI G K s (zA G K) H locs h) (hl : lv_has ls 5 [(0, .ref (G.1 a0)), (1, .int x1), (2, .int x2)]) : W p l e (zR 8) s m args below meth c H locs 0 0 (MQ below (zQi G K r h') args s 0 0 (zA G K)) (F0 m 0 ls []) := by
  obtain ⟨hx, hb, hml, hown, hts, hr, hlocks, hK, hST, hNs⟩ := id X
  unfold m_Model_work at hm
  refine lv_aload_n hx hb d_Model_work_0 rfl (lv_at hl 0 rfl) ?_
  refine lv_iload_n hx hb d_Model_work_1 rfl (lv_at hl 1 rfl) ?_
  obtain ⟨v2, hv, hm⟩ := zbd hm
  obtain ⟨hq, hv⟩ := zcv_at hv
  refine z_ci hI (z_runV (As := [.int x1]) (rest := []) X hI hl.1 (c_Model_isWay l G K a0 x1 h _ hv) C_Model_128 rfl hq (Nat.le_of_ble_eq_true rfl) ⟨Nat.le_of_ble_eq_true rfl, Nat.le_of_ble_eq_true rfl, Nat.zero_le _, Nat.zero_le _⟩ rfl d_Model_work_2) (fun H locs hI => ?_)
  refine lv_if_eq (tgt := 18) hx hb d_Model_work_5 (by decide) (fun hc5 => ?_) (fun hc5 => ?_)
  · replace hm := zif_t hc5 hm
    refine lv_iconst (v := (-1 : Int32)) hx hb d_Model_work_18 (by decide) ?_
    obtain ⟨rfl, rfl⟩ := zs2 hm
    exact z_iret X hI d_Model_work_19
  · replace hm := zif_f hc5 hm
    refine lv_iload_n hx hb d_Model_work_8 rfl (lv_at hl 2 rfl) ?_
    refine lv_i2l hx hb d_Model_work_9 rfl ?_
    refine lv_lconst (v := 0) hx hb d_Model_work_10 (by decide) ?_
    refine lv_lconst (v := 1) hx hb d_Model_work_11 (by decide) ?_
    obtain ⟨v12, hv, hm⟩ := zbd hm
    refine z_ci hI (z_runS (As := [.long x2.toInt64, .long (0 : Int64), .long (1 : Int64)]) (rest := []) X hI hl.1 (c_Model_within l G K x2.toInt64 (0 : Int64) (1 : Int64) h _ hv) C_Model_87 rfl (Nat.le_of_ble_eq_true rfl) ⟨Nat.le_of_ble_eq_true rfl, Nat.le_of_ble_eq_true rfl, Nat.zero_le _, Nat.zero_le _⟩ rfl d_Model_work_12) (fun H locs hI => ?_)
    refine lv_if_ne (tgt := 20) hx hb d_Model_work_15 (by decide) (fun hc15 => ?_) (fun hc15 => ?_)
    · replace hm := zif_f hc15 hm
      refine lv_aload_n hx hb d_Model_work_20 rfl (lv_at hl 0 rfl) ?_
      refine lv_iload_n hx hb d_Model_work_21 rfl (lv_at hl 1 rfl) ?_
      obtain ⟨v22, h22, hv, hm⟩ := zb2_at hm
      obtain ⟨hq, hv⟩ := zcv_at hv
      refine z_ci hI (z_runV (As := [.int x1]) (rest := []) X hI hl.1 (c_Model_noOrders l G K a0 x1 h _ _ hv) C_Model_252 rfl hq (Nat.le_of_ble_eq_true rfl) ⟨Nat.le_of_ble_eq_true rfl, Nat.le_of_ble_eq_true rfl, Nat.zero_le _, Nat.zero_le _⟩ rfl d_Model_work_22) (fun H locs hI => ?_)
      refine lv_istore_n (lv' := [(3, .int v22), (0, .ref (G.1 a0)), (1, .int x1), (2, .int x2)]) hx hb d_Model_work_25 rfl hl (by decide) rfl (fun ls hl => ?_)
      refine lv_iload_n hx hb d_Model_work_26 rfl (lv_at hl 0 rfl) ?_
      refine lv_if_ge (tgt := 32) hx hb d_Model_work_27 (by decide) (fun hc27 => ?_) (fun hc27 => ?_)
      · replace hm := zif_t hc27 hm
        refine lv_aload_n hx hb d_Model_work_32 rfl (lv_at hl 1 rfl) ?_
        obtain ⟨v33, hv, hm⟩ := zbd hm
        obtain ⟨hq, hv⟩ := zcv_at hv
        refine z_ci hI (z_runV (As := []) (rest := []) X hI hl.1 (c_Model_workMany l G K a0 h22 _ hv) C_Model_261 rfl hq (Nat.le_of_ble_eq_true rfl) ⟨Nat.le_of_ble_eq_true rfl, Nat.le_of_ble_eq_true rfl, Nat.zero_le _, Nat.zero_le _⟩ rfl d_Model_work_33) (fun H locs hI => ?_)
        refine lv_istore (lv' := [(4, .int v33), (3, .int v22), (0, .ref (G.1 a0)), (1, .int x1), (2, .int x2)]) hx hb d_Model_work_36 hl (by decide) rfl (fun ls hl => ?_)
        refine lv_iload_n hx hb d_Model_work_38 rfl (lv_at hl 4 rfl) ?_
        refine lv_if_ne (tgt := 45) hx hb d_Model_work_39 (by decide) (fun hc39 => ?_) (fun hc39 => ?_)
        · replace hm := zif_f hc39 hm
          refine lv_aload_n hx hb d_Model_work_45 rfl (lv_at hl 2 rfl) ?_
          refine lv_iconst (v := (nI 0)) hx hb d_Model_work_46 (by decide) ?_
          obtain ⟨v47, h47, hv, hm⟩ := zb2_at hm
          obtain ⟨hq, hv⟩ := zcv_at hv
          refine z_ci hI (z_runV (As := [.int (nI 0)]) (rest := []) X hI hl.1 (c_Model_findAll l G K a0 (nI 0) h22 _ _ hv) C_Model_249 rfl hq (Nat.le_of_ble_eq_true rfl) ⟨Nat.le_of_ble_eq_true rfl, Nat.le_of_ble_eq_true rfl, Nat.zero_le _, Nat.zero_le _⟩ rfl d_Model_work_47) (fun H locs hI => ?_)
          refine lv_istore_n (lv' := [(3, .int v47), (4, .int v33), (0, .ref (G.1 a0)), (1, .int x1), (2, .int x2)]) hx hb d_Model_work_50 rfl hl (by decide) rfl (fun ls hl => ?_)
          refine lv_iload_n hx hb d_Model_work_51 rfl (lv_at hl 0 rfl) ?_
          refine lv_if_ge (tgt := 59) hx hb d_Model_work_52 (by decide) (fun hc52 => ?_) (fun hc52 => ?_)
          · replace hm := zif_t hc52 hm
            refine lv_iload hx hb d_Model_work_59 (lv_at hl 1 rfl) ?_
            refine lv_aload_n hx hb d_Model_work_61 rfl (lv_at hl 2 rfl) ?_
            obtain ⟨v62, hv, hm⟩ := zbd hm
            obtain ⟨hq, hv⟩ := zcv_at hv
            refine z_ci hI (z_runV (As := []) (rest := [.int v33]) X hI hl.1 (c_Model_workMany l G K a0 h47 _ hv) C_Model_261 rfl hq (Nat.le_of_ble_eq_true rfl) ⟨Nat.le_of_ble_eq_true rfl, Nat.le_of_ble_eq_true rfl, Nat.zero_le _, Nat.zero_le _⟩ rfl d_Model_work_62) (fun H locs hI => ?_)
            refine lv_icmp_ne (tgt := 72) hx hb d_Model_work_65 (by decide) (fun hc65 => ?_) (fun hc65 => ?_)
            · replace hm := zif_f hc65 hm
              refine lv_iconst (v := (nI 0)) hx hb d_Model_work_72 (by decide) ?_
              obtain ⟨rfl, rfl⟩ := zs2 hm
              exact z_iret X hI d_Model_work_73
            · replace hm := zif_t hc65 hm
              refine lv_iconst (v := (nI 1)) hx hb d_Model_work_68 (by decide) ?_
              refine lv_goto (tgt := 73) hx hb d_Model_work_69 (by decide) ?_
              obtain ⟨rfl, rfl⟩ := zs2 hm
              exact z_iret X hI d_Model_work_73
          · replace hm := zif_f hc52 hm
            refine lv_iload_n hx hb d_Model_work_55 rfl (lv_at hl 0 rfl) ?_
            refine lv_goto (tgt := 73) hx hb d_Model_work_56 (by decide) ?_
            obtain ⟨rfl, rfl⟩ := zs2 hm
            exact z_iret X hI d_Model_work_73
        · replace hm := zif_t hc39 hm
          refine lv_iload hx hb d_Model_work_42 (lv_at hl 0 rfl) ?_
          obtain ⟨rfl, rfl⟩ := zs2 hm
          exact z_iret X hI d_Model_work_44
      · replace hm := zif_f hc27 hm
        refine lv_iload_n hx hb d_Model_work_30 rfl (lv_at hl 0 rfl) ?_
        obtain ⟨rfl, rfl⟩ := zs2 hm
        exact z_iret X hI d_Model_work_31
    · replace hm := zif_t hc15 hm
      refine lv_iconst (v := (-1 : Int32)) hx hb d_Model_work_18 (by decide) ?_
      obtain ⟨rfl, rfl⟩ := zs2 hm
      exact z_iret X hI d_Model_work_19
set_option maxHeartbeats 4000000 in
set_option maxRecDepth 100000 in
theorem c_Model_work (l : Launch) (G : zG) (K : Nat) (a0 : Nat) (x1 : Int32) (x2 : Int32) (h : zH) (r : Int32) (h' : zH) (hm : m_Model_work a0 x1 x2 h = some (r, h')) : zMi l G K y_Model_work prog_9_method_60_code 5 8 [.ref (G.1 a0), .int x1, .int x2] h r h' := zMet (by decide +kernel) (Nat.le_of_ble_eq_true rfl) (fun p e s m below meth c ls X hI hl => r_Model_work_0 X a0 x1 x2 h hm hI hl)
-- walk of AllHomeModel.ranBody
theorem d_Model_ranBody_0 : decode prog_9_method_61_code 0 = .ok (.aload_n 0, 1) := by decide +kernel
theorem d_Model_ranBody_1 : decode prog_9_method_61_code 1 = .ok (.getfield 264, 3) := by decide +kernel
theorem d_Model_ranBody_4 : decode prog_9_method_61_code 4 = .ok (.bipush 24, 2) := by decide +kernel
theorem d_Model_ranBody_6 : decode prog_9_method_61_code 6 = .ok (.if_icmp .ge 13, 3) := by decide +kernel
theorem d_Model_ranBody_9 : decode prog_9_method_61_code 9 = .ok (.aload_n 0, 1) := by decide +kernel
theorem d_Model_ranBody_10 : decode prog_9_method_61_code 10 = .ok (.getfield 62, 3) := by decide +kernel
theorem d_Model_ranBody_13 : decode prog_9_method_61_code 13 = .ok (.aload_n 0, 1) := by decide +kernel
theorem d_Model_ranBody_14 : decode prog_9_method_61_code 14 = .ok (.getfield 264, 3) := by decide +kernel
theorem d_Model_ranBody_17 : decode prog_9_method_61_code 17 = .ok (.iload_n 1, 1) := by decide +kernel
theorem d_Model_ranBody_18 : decode prog_9_method_61_code 18 = .ok (.iastore, 1) := by decide +kernel
theorem d_Model_ranBody_19 : decode prog_9_method_61_code 19 = .ok (.aload_n 0, 1) := by decide +kernel
theorem d_Model_ranBody_20 : decode prog_9_method_61_code 20 = .ok (.dup, 1) := by decide +kernel
theorem d_Model_ranBody_21 : decode prog_9_method_61_code 21 = .ok (.getfield 264, 3) := by decide +kernel
theorem d_Model_ranBody_24 : decode prog_9_method_61_code 24 = .ok (.iconst 1, 1) := by decide +kernel
theorem d_Model_ranBody_25 : decode prog_9_method_61_code 25 = .ok (.iadd, 1) := by decide +kernel
theorem d_Model_ranBody_26 : decode prog_9_method_61_code 26 = .ok (.putfield 264, 3) := by decide +kernel
theorem d_Model_ranBody_29 : decode prog_9_method_61_code 29 = .ok (.return_, 1) := by decide +kernel
set_option maxHeartbeats 4000000 in
set_option maxRecDepth 100000 in
theorem r_Model_ranBody_0 {p : Program} {l : Launch} {e : Env} {s : State} {m : MethodId} {args : Array Value} {below : List Frame} {meth : Method} {c : Code} {G : zG} {K : Nat} (X : zX p s m args meth c "AllHomeModel" prog_9_method_61_code 2 none G (zA G K)) {h' : zH} (a0 : Nat) (x1 : Int32) (h : zH) (hm : m_Model_ranBody a0 x1 h = some h') {H : Heap} {locs : List Loc} {ls : Array Slot} (hI : zI G K s (zA G K) H locs h) (hl : lv_has ls 2 [(0, .ref (G.1 a0)), (1, .int x1)]) : W p l e (zR 0) s m args below meth c H locs 0 0 (MQ below (zQv G K h') args s 0 0 (zA G K)) (F0 m 0 ls []) := by
  obtain ⟨hx, hb, hml, hown, hts, hr, hlocks, hK, hST, hNs⟩ := id X
  unfold m_Model_ranBody at hm
  refine lv_aload_n hx hb d_Model_ranBody_0 rfl (lv_at hl 0 rfl) ?_
  obtain ⟨v1, hv, hm⟩ := zbd hm
  refine z_getI X hI F_Model_264 hv d_Model_ranBody_1 ?_
  refine lv_bipush (v := (nI 24)) hx hb d_Model_ranBody_4 (by decide) ?_
  refine lv_icmp_ge (tgt := 19) hx hb d_Model_ranBody_6 (by decide) (fun hc6 => ?_) (fun hc6 => ?_)
  · replace hm := zif_t hc6 hm
    refine lv_aload_n hx hb d_Model_ranBody_19 rfl (lv_at hl 0 rfl) ?_
    refine lv_dup hx hb d_Model_ranBody_20 rfl ?_
    obtain ⟨v21, hv, hm⟩ := zbd hm
    refine z_getI X hI F_Model_264 hv d_Model_ranBody_21 ?_
    refine lv_iconst (v := (nI 1)) hx hb d_Model_ranBody_24 (by decide) ?_
    refine lv_iadd hx hb d_Model_ranBody_25 ?_
    obtain ⟨h26, hv, hm⟩ := zbd hm
    refine z_putI X hI P_Model_264 hv d_Model_ranBody_26 (fun H locs hI => ?_)
    obtain rfl := zs1 hm
    exact z_vret X hI d_Model_ranBody_29
  · replace hm := zif_f hc6 hm
    refine lv_aload_n hx hb d_Model_ranBody_9 rfl (lv_at hl 0 rfl) ?_
    obtain ⟨v10, hv, hm⟩ := zbd hm
    refine z_getR X hI F_Model_62 hv d_Model_ranBody_10 ?_
    refine lv_aload_n hx hb d_Model_ranBody_13 rfl (lv_at hl 0 rfl) ?_
    obtain ⟨v14, hv, hm⟩ := zbd hm
    refine z_getI X hI F_Model_264 hv d_Model_ranBody_14 ?_
    refine lv_iload_n hx hb d_Model_ranBody_17 rfl (lv_at hl 1 rfl) ?_
    obtain ⟨h18, hv, hm⟩ := zbd hm
    refine z_iast X hI hv d_Model_ranBody_18 (fun H locs hI => ?_)
    refine lv_aload_n hx hb d_Model_ranBody_19 rfl (lv_at hl 0 rfl) ?_
    refine lv_dup hx hb d_Model_ranBody_20 rfl ?_
    obtain ⟨v21, hv, hm⟩ := zbd hm
    refine z_getI X hI F_Model_264 hv d_Model_ranBody_21 ?_
    refine lv_iconst (v := (nI 1)) hx hb d_Model_ranBody_24 (by decide) ?_
    refine lv_iadd hx hb d_Model_ranBody_25 ?_
    obtain ⟨h26, hv, hm⟩ := zbd hm
    refine z_putI X hI P_Model_264 hv d_Model_ranBody_26 (fun H locs hI => ?_)
    obtain rfl := zs1 hm
    exact z_vret X hI d_Model_ranBody_29
set_option maxHeartbeats 4000000 in
set_option maxRecDepth 100000 in
theorem c_Model_ranBody (l : Launch) (G : zG) (K : Nat) (a0 : Nat) (x1 : Int32) (h : zH) (h' : zH) (hm : m_Model_ranBody a0 x1 h = some h') : zMv l G K y_Model_ranBody prog_9_method_61_code 2 0 [.ref (G.1 a0), .int x1] h h' := zMet (by decide +kernel) (Nat.le_of_ble_eq_true rfl) (fun p e s m below meth c ls X hI hl => r_Model_ranBody_0 X a0 x1 h hm hI hl)
-- walk of AllHomeModel.sends
theorem d_Model_sends_0 : decode prog_9_method_62_code 0 = .ok (.iload_n 1, 1) := by decide +kernel
theorem d_Model_sends_1 : decode prog_9_method_62_code 1 = .ok (.tableswitch 83 0 4 #[35, 47, 83, 83, 65], 35) := by decide +kernel
theorem d_Model_sends_36 : decode prog_9_method_62_code 36 = .ok (.aload_n 0, 1) := by decide +kernel
theorem d_Model_sends_37 : decode prog_9_method_62_code 37 = .ok (.iconst 1, 1) := by decide +kernel
theorem d_Model_sends_38 : decode prog_9_method_62_code 38 = .ok (.invokevirtual 267, 3) := by decide +kernel
theorem d_Model_sends_41 : decode prog_9_method_62_code 41 = .ok (.iload_n 2, 1) := by decide +kernel
theorem d_Model_sends_42 : decode prog_9_method_62_code 42 = .ok (.aload_n 0, 1) := by decide +kernel
theorem d_Model_sends_43 : decode prog_9_method_62_code 43 = .ok (.getfield 270, 3) := by decide +kernel
theorem d_Model_sends_46 : decode prog_9_method_62_code 46 = .ok (.iadd, 1) := by decide +kernel
theorem d_Model_sends_47 : decode prog_9_method_62_code 47 = .ok (.ireturn, 1) := by decide +kernel
theorem d_Model_sends_48 : decode prog_9_method_62_code 48 = .ok (.aload_n 0, 1) := by decide +kernel
theorem d_Model_sends_49 : decode prog_9_method_62_code 49 = .ok (.bipush 20, 2) := by decide +kernel
theorem d_Model_sends_51 : decode prog_9_method_62_code 51 = .ok (.invokevirtual 267, 3) := by decide +kernel
theorem d_Model_sends_54 : decode prog_9_method_62_code 54 = .ok (.aload_n 0, 1) := by decide +kernel
theorem d_Model_sends_55 : decode prog_9_method_62_code 55 = .ok (.iconst 1, 1) := by decide +kernel
theorem d_Model_sends_56 : decode prog_9_method_62_code 56 = .ok (.invokestatic 131, 3) := by decide +kernel
theorem d_Model_sends_59 : decode prog_9_method_62_code 59 = .ok (.iload_n 2, 1) := by decide +kernel
theorem d_Model_sends_60 : decode prog_9_method_62_code 60 = .ok (.invokevirtual 273, 3) := by decide +kernel
theorem d_Model_sends_63 : decode prog_9_method_62_code 63 = .ok (.iconst 2, 1) := by decide +kernel
theorem d_Model_sends_64 : decode prog_9_method_62_code 64 = .ok (.idiv, 1) := by decide +kernel
theorem d_Model_sends_65 : decode prog_9_method_62_code 65 = .ok (.ireturn, 1) := by decide +kernel
theorem d_Model_sends_66 : decode prog_9_method_62_code 66 = .ok (.aload_n 0, 1) := by decide +kernel
theorem d_Model_sends_67 : decode prog_9_method_62_code 67 = .ok (.bipush 50, 2) := by decide +kernel
theorem d_Model_sends_69 : decode prog_9_method_62_code 69 = .ok (.invokevirtual 267, 3) := by decide +kernel
theorem d_Model_sends_72 : decode prog_9_method_62_code 72 = .ok (.aload_n 0, 1) := by decide +kernel
theorem d_Model_sends_73 : decode prog_9_method_62_code 73 = .ok (.iconst 4, 1) := by decide +kernel
theorem d_Model_sends_74 : decode prog_9_method_62_code 74 = .ok (.invokestatic 131, 3) := by decide +kernel
theorem d_Model_sends_77 : decode prog_9_method_62_code 77 = .ok (.iload_n 2, 1) := by decide +kernel
theorem d_Model_sends_78 : decode prog_9_method_62_code 78 = .ok (.invokevirtual 273, 3) := by decide +kernel
theorem d_Model_sends_81 : decode prog_9_method_62_code 81 = .ok (.iconst 3, 1) := by decide +kernel
theorem d_Model_sends_82 : decode prog_9_method_62_code 82 = .ok (.imul, 1) := by decide +kernel
theorem d_Model_sends_83 : decode prog_9_method_62_code 83 = .ok (.ireturn, 1) := by decide +kernel
theorem d_Model_sends_84 : decode prog_9_method_62_code 84 = .ok (.aload_n 0, 1) := by decide +kernel
theorem d_Model_sends_85 : decode prog_9_method_62_code 85 = .ok (.iload_n 1, 1) := by decide +kernel
theorem d_Model_sends_86 : decode prog_9_method_62_code 86 = .ok (.invokestatic 131, 3) := by decide +kernel
theorem d_Model_sends_89 : decode prog_9_method_62_code 89 = .ok (.iload_n 2, 1) := by decide +kernel
theorem d_Model_sends_90 : decode prog_9_method_62_code 90 = .ok (.invokevirtual 273, 3) := by decide +kernel
theorem d_Model_sends_93 : decode prog_9_method_62_code 93 = .ok (.ireturn, 1) := by decide +kernel
set_option maxHeartbeats 4000000 in
set_option maxRecDepth 100000 in
theorem r_Model_sends_0 {p : Program} {l : Launch} {e : Env} {s : State} {m : MethodId} {args : Array Value} {below : List Frame} {meth : Method} {c : Code} {G : zG} {K : Nat} {n0 : Nat} (X : zX p s m args meth c "AllHomeModel" prog_9_method_62_code 3 (some .int) G (zA G K)) {r : Int32} {h' : zH} (kk : (Nat × Int32 × Int32 × zH) → Option (Int32 × zH)) (hkk : ∀ (w : Nat × Int32 × Int32 × zH) (r : Int32) (h' : zH), kk w = some (r, h') → zMi l G K y_Model_sends prog_9_method_62_code 3 (n0 + 1) [.ref (G.1 w.1), .int w.2.1, .int w.2.2.1] w.2.2.2 r h') (u : Nat × Int32 × Int32 × zH) (hm : g_Model_sends_0 kk u = some (r, h')) {H : Heap} {locs : List Loc} {ls : Array Slot} (hI : zI G K s (zA G K) H locs u.2.2.2) (hl : lv_has ls 3 [(0, .ref (G.1 u.1)), (1, .int u.2.1), (2, .int u.2.2.1)]) : W p l e (zR (n0 + 2)) s m args below meth c H locs 0 0 (MQ below (zQi G K r h') args s 0 0 (zA G K)) (F0 m 0 ls []) := by
  obtain ⟨hx, hb, hml, hown, hts, hr, hlocks, hK, hST, hNs⟩ := id X
  unfold g_Model_sends_0 at hm
  refine lv_iload_n hx hb d_Model_sends_0 rfl (lv_at hl 1 rfl) ?_
  by_cases hs1_0 : u.2.1 = (nI 0)
  · replace hm := zif_t hs1_0 hm
    refine lv_tableIn (off := 35) (tgt := 36) hx hb d_Model_sends_1 (by rw [hs1_0]; decide) (by rw [hs1_0]; decide) (by rw [hs1_0]; rfl) (by decide) ?_
    refine lv_aload_n hx hb d_Model_sends_36 rfl (lv_at hl 0 rfl) ?_
    refine lv_iconst (v := (nI 1)) hx hb d_Model_sends_37 (by decide) ?_
    obtain ⟨h38, hv, hm⟩ := zbd hm
    obtain ⟨hq, hv⟩ := zcv_at hv
    refine z_cv hI (z_runV (As := [.int (nI 1)]) (rest := []) X hI hl.1 (c_Model_ranBody l G K u.1 (nI 1) u.2.2.2 _ hv) C_Model_267 rfl hq (Nat.le_of_ble_eq_true rfl) ⟨by simp only [zR]; omega, by simp only [zR]; omega, Nat.zero_le _, Nat.zero_le _⟩ rfl d_Model_sends_38) (fun H locs hI => ?_)
    refine lv_iload_n hx hb d_Model_sends_41 rfl (lv_at hl 2 rfl) ?_
    refine lv_aload_n hx hb d_Model_sends_42 rfl (lv_at hl 0 rfl) ?_
    obtain ⟨v43, hv, hm⟩ := zbd hm
    refine z_getI X hI F_Model_270 hv d_Model_sends_43 ?_
    refine lv_iadd hx hb d_Model_sends_46 ?_
    obtain ⟨rfl, rfl⟩ := zs2 hm
    exact z_iret X hI d_Model_sends_47
  · replace hm := zif_f hs1_0 hm
    by_cases hs1_1 : u.2.1 = (nI 1)
    · replace hm := zif_t hs1_1 hm
      refine lv_tableIn (off := 47) (tgt := 48) hx hb d_Model_sends_1 (by rw [hs1_1]; decide) (by rw [hs1_1]; decide) (by rw [hs1_1]; rfl) (by decide) ?_
      refine lv_aload_n hx hb d_Model_sends_48 rfl (lv_at hl 0 rfl) ?_
      refine lv_bipush (v := (nI 20)) hx hb d_Model_sends_49 (by decide) ?_
      obtain ⟨h51, hv, hm⟩ := zbd hm
      obtain ⟨hq, hv⟩ := zcv_at hv
      refine z_cv hI (z_runV (As := [.int (nI 20)]) (rest := []) X hI hl.1 (c_Model_ranBody l G K u.1 (nI 20) u.2.2.2 _ hv) C_Model_267 rfl hq (Nat.le_of_ble_eq_true rfl) ⟨by simp only [zR]; omega, by simp only [zR]; omega, Nat.zero_le _, Nat.zero_le _⟩ rfl d_Model_sends_51) (fun H locs hI => ?_)
      refine lv_aload_n hx hb d_Model_sends_54 rfl (lv_at hl 0 rfl) ?_
      refine lv_iconst (v := (nI 1)) hx hb d_Model_sends_55 (by decide) ?_
      obtain ⟨v56, hv, hm⟩ := zbd hm
      refine z_ci hI (z_runS (As := [.int (nI 1)]) (rest := [.ref (G.1 u.1)]) X hI hl.1 (c_Model_above l G K (nI 1) h51 _ hv) C_Model_131 rfl (Nat.le_of_ble_eq_true rfl) ⟨by simp only [zR]; omega, by simp only [zR]; omega, Nat.zero_le _, Nat.zero_le _⟩ rfl d_Model_sends_56) (fun H locs hI => ?_)
      refine lv_iload_n hx hb d_Model_sends_59 rfl (lv_at hl 2 rfl) ?_
      obtain ⟨v60, h60, hv, hm⟩ := zb2_at hm
      obtain ⟨hq, hv⟩ := zcv_at hv
      refine z_ci hI (z_runV (As := [.int v56, .int u.2.2.1]) (rest := []) X hI hl.1 (hkk _ _ _ hv) C_Model_273 rfl hq (Nat.le_of_ble_eq_true rfl) ⟨by simp only [zR]; omega, by simp only [zR]; omega, Nat.zero_le _, Nat.zero_le _⟩ rfl d_Model_sends_60) (fun H locs hI => ?_)
      refine lv_iconst (v := (nI 2)) hx hb d_Model_sends_63 (by decide) ?_
      refine lv_idiv hx hb d_Model_sends_64 (by decide) ?_
      obtain ⟨rfl, rfl⟩ := zs2 hm
      exact z_iret X hI d_Model_sends_65
    · replace hm := zif_f hs1_1 hm
      by_cases hs1_2 : u.2.1 = (nI 2)
      · replace hm := zif_t hs1_2 hm
        refine lv_tableIn (off := 83) (tgt := 84) hx hb d_Model_sends_1 (by rw [hs1_2]; decide) (by rw [hs1_2]; decide) (by rw [hs1_2]; rfl) (by decide) ?_
        refine lv_aload_n hx hb d_Model_sends_84 rfl (lv_at hl 0 rfl) ?_
        refine lv_iload_n hx hb d_Model_sends_85 rfl (lv_at hl 1 rfl) ?_
        obtain ⟨v86, hv, hm⟩ := zbd hm
        refine z_ci hI (z_runS (As := [.int u.2.1]) (rest := [.ref (G.1 u.1)]) X hI hl.1 (c_Model_above l G K u.2.1 u.2.2.2 _ hv) C_Model_131 rfl (Nat.le_of_ble_eq_true rfl) ⟨by simp only [zR]; omega, by simp only [zR]; omega, Nat.zero_le _, Nat.zero_le _⟩ rfl d_Model_sends_86) (fun H locs hI => ?_)
        refine lv_iload_n hx hb d_Model_sends_89 rfl (lv_at hl 2 rfl) ?_
        obtain ⟨v90, h90, hv, hm⟩ := zb2_at hm
        obtain ⟨hq, hv⟩ := zcv_at hv
        refine z_ci hI (z_runV (As := [.int v86, .int u.2.2.1]) (rest := []) X hI hl.1 (hkk _ _ _ hv) C_Model_273 rfl hq (Nat.le_of_ble_eq_true rfl) ⟨by simp only [zR]; omega, by simp only [zR]; omega, Nat.zero_le _, Nat.zero_le _⟩ rfl d_Model_sends_90) (fun H locs hI => ?_)
        obtain ⟨rfl, rfl⟩ := zs2 hm
        exact z_iret X hI d_Model_sends_93
      · replace hm := zif_f hs1_2 hm
        by_cases hs1_3 : u.2.1 = (nI 3)
        · replace hm := zif_t hs1_3 hm
          refine lv_tableIn (off := 83) (tgt := 84) hx hb d_Model_sends_1 (by rw [hs1_3]; decide) (by rw [hs1_3]; decide) (by rw [hs1_3]; rfl) (by decide) ?_
          refine lv_aload_n hx hb d_Model_sends_84 rfl (lv_at hl 0 rfl) ?_
          refine lv_iload_n hx hb d_Model_sends_85 rfl (lv_at hl 1 rfl) ?_
          obtain ⟨v86, hv, hm⟩ := zbd hm
          refine z_ci hI (z_runS (As := [.int u.2.1]) (rest := [.ref (G.1 u.1)]) X hI hl.1 (c_Model_above l G K u.2.1 u.2.2.2 _ hv) C_Model_131 rfl (Nat.le_of_ble_eq_true rfl) ⟨by simp only [zR]; omega, by simp only [zR]; omega, Nat.zero_le _, Nat.zero_le _⟩ rfl d_Model_sends_86) (fun H locs hI => ?_)
          refine lv_iload_n hx hb d_Model_sends_89 rfl (lv_at hl 2 rfl) ?_
          obtain ⟨v90, h90, hv, hm⟩ := zb2_at hm
          obtain ⟨hq, hv⟩ := zcv_at hv
          refine z_ci hI (z_runV (As := [.int v86, .int u.2.2.1]) (rest := []) X hI hl.1 (hkk _ _ _ hv) C_Model_273 rfl hq (Nat.le_of_ble_eq_true rfl) ⟨by simp only [zR]; omega, by simp only [zR]; omega, Nat.zero_le _, Nat.zero_le _⟩ rfl d_Model_sends_90) (fun H locs hI => ?_)
          obtain ⟨rfl, rfl⟩ := zs2 hm
          exact z_iret X hI d_Model_sends_93
        · replace hm := zif_f hs1_3 hm
          by_cases hs1_4 : u.2.1 = (nI 4)
          · replace hm := zif_t hs1_4 hm
            refine lv_tableIn (off := 65) (tgt := 66) hx hb d_Model_sends_1 (by rw [hs1_4]; decide) (by rw [hs1_4]; decide) (by rw [hs1_4]; rfl) (by decide) ?_
            refine lv_aload_n hx hb d_Model_sends_66 rfl (lv_at hl 0 rfl) ?_
            refine lv_bipush (v := (nI 50)) hx hb d_Model_sends_67 (by decide) ?_
            obtain ⟨h69, hv, hm⟩ := zbd hm
            obtain ⟨hq, hv⟩ := zcv_at hv
            refine z_cv hI (z_runV (As := [.int (nI 50)]) (rest := []) X hI hl.1 (c_Model_ranBody l G K u.1 (nI 50) u.2.2.2 _ hv) C_Model_267 rfl hq (Nat.le_of_ble_eq_true rfl) ⟨by simp only [zR]; omega, by simp only [zR]; omega, Nat.zero_le _, Nat.zero_le _⟩ rfl d_Model_sends_69) (fun H locs hI => ?_)
            refine lv_aload_n hx hb d_Model_sends_72 rfl (lv_at hl 0 rfl) ?_
            refine lv_iconst (v := (nI 4)) hx hb d_Model_sends_73 (by decide) ?_
            obtain ⟨v74, hv, hm⟩ := zbd hm
            refine z_ci hI (z_runS (As := [.int (nI 4)]) (rest := [.ref (G.1 u.1)]) X hI hl.1 (c_Model_above l G K (nI 4) h69 _ hv) C_Model_131 rfl (Nat.le_of_ble_eq_true rfl) ⟨by simp only [zR]; omega, by simp only [zR]; omega, Nat.zero_le _, Nat.zero_le _⟩ rfl d_Model_sends_74) (fun H locs hI => ?_)
            refine lv_iload_n hx hb d_Model_sends_77 rfl (lv_at hl 2 rfl) ?_
            obtain ⟨v78, h78, hv, hm⟩ := zb2_at hm
            obtain ⟨hq, hv⟩ := zcv_at hv
            refine z_ci hI (z_runV (As := [.int v74, .int u.2.2.1]) (rest := []) X hI hl.1 (hkk _ _ _ hv) C_Model_273 rfl hq (Nat.le_of_ble_eq_true rfl) ⟨by simp only [zR]; omega, by simp only [zR]; omega, Nat.zero_le _, Nat.zero_le _⟩ rfl d_Model_sends_78) (fun H locs hI => ?_)
            refine lv_iconst (v := (nI 3)) hx hb d_Model_sends_81 (by decide) ?_
            refine lv_imul hx hb d_Model_sends_82 ?_
            obtain ⟨rfl, rfl⟩ := zs2 hm
            exact z_iret X hI d_Model_sends_83
          · replace hm := zif_f hs1_4 hm
            have he0 : (u.2.1).toInt ≠ 0 := fun q => hs1_0 (Int32.toInt_inj.mp (q.trans (by decide)))
            have he1 : (u.2.1).toInt ≠ 1 := fun q => hs1_1 (Int32.toInt_inj.mp (q.trans (by decide)))
            have he2 : (u.2.1).toInt ≠ 2 := fun q => hs1_2 (Int32.toInt_inj.mp (q.trans (by decide)))
            have he3 : (u.2.1).toInt ≠ 3 := fun q => hs1_3 (Int32.toInt_inj.mp (q.trans (by decide)))
            have he4 : (u.2.1).toInt ≠ 4 := fun q => hs1_4 (Int32.toInt_inj.mp (q.trans (by decide)))
            refine lv_tableOut (tgt := 84) hx hb d_Model_sends_1 (by omega) (by decide) ?_
            refine lv_aload_n hx hb d_Model_sends_84 rfl (lv_at hl 0 rfl) ?_
            refine lv_iload_n hx hb d_Model_sends_85 rfl (lv_at hl 1 rfl) ?_
            obtain ⟨v86, hv, hm⟩ := zbd hm
            refine z_ci hI (z_runS (As := [.int u.2.1]) (rest := [.ref (G.1 u.1)]) X hI hl.1 (c_Model_above l G K u.2.1 u.2.2.2 _ hv) C_Model_131 rfl (Nat.le_of_ble_eq_true rfl) ⟨by simp only [zR]; omega, by simp only [zR]; omega, Nat.zero_le _, Nat.zero_le _⟩ rfl d_Model_sends_86) (fun H locs hI => ?_)
            refine lv_iload_n hx hb d_Model_sends_89 rfl (lv_at hl 2 rfl) ?_
            obtain ⟨v90, h90, hv, hm⟩ := zb2_at hm
            obtain ⟨hq, hv⟩ := zcv_at hv
            refine z_ci hI (z_runV (As := [.int v86, .int u.2.2.1]) (rest := []) X hI hl.1 (hkk _ _ _ hv) C_Model_273 rfl hq (Nat.le_of_ble_eq_true rfl) ⟨by simp only [zR]; omega, by simp only [zR]; omega, Nat.zero_le _, Nat.zero_le _⟩ rfl d_Model_sends_90) (fun H locs hI => ?_)
            obtain ⟨rfl, rfl⟩ := zs2 hm
            exact z_iret X hI d_Model_sends_93
set_option maxHeartbeats 4000000 in
set_option maxRecDepth 100000 in
theorem cz_Model_sends (l : Launch) (G : zG) (K : Nat) : ∀ (n : Nat) (w : Nat × Int32 × Int32 × zH) (r : Int32) (h' : zH), zloop g_Model_sends_0 n w = some (r, h') → zMi l G K y_Model_sends prog_9_method_62_code 3 (n + 1) [.ref (G.1 w.1), .int w.2.1, .int w.2.2.1] w.2.2.2 r h' := by
  intro n
  induction n with
  | zero => intro w r h' hm; cases hm
  | succ n ih =>
    intro w r h' hm
    have hm : g_Model_sends_0 (zloop g_Model_sends_0 n) w = some (r, h') := zls hm
    have E : n + 1 + 1 = n + 2 := by omega
    rw [E]
    exact zMet (by decide +kernel) (Nat.le_of_ble_eq_true rfl) (fun p e s m below meth c ls X hI hl => r_Model_sends_0 (n0 := n) X (zloop g_Model_sends_0 n) ih w hm hI hl)
theorem c_Model_sends (l : Launch) (G : zG) (K : Nat) (n : Nat) (a0 : Nat) (x1 : Int32) (x2 : Int32) (h : zH) (r : Int32) (h' : zH) (hm : m_Model_sends n a0 x1 x2 h = some (r, h')) : zMi l G K y_Model_sends prog_9_method_62_code 3 (n + 1) [.ref (G.1 a0), .int x1, .int x2] h r h' := cz_Model_sends l G K n (a0, x1, x2, h) r h' hm
-- walk of AllHomeModel.asksOf
theorem d_Model_asksOf_0 : decode prog_9_method_63_code 0 = .ok (.iload_n 1, 1) := by decide +kernel
theorem d_Model_asksOf_1 : decode prog_9_method_63_code 1 = .ok (.lookupswitch 106 #[(0, 35), (3, 58), (7, 76)], 35) := by decide +kernel
theorem d_Model_asksOf_36 : decode prog_9_method_63_code 36 = .ok (.aload_n 0, 1) := by decide +kernel
theorem d_Model_asksOf_37 : decode prog_9_method_63_code 37 = .ok (.bipush 10, 2) := by decide +kernel
theorem d_Model_asksOf_39 : decode prog_9_method_63_code 39 = .ok (.invokevirtual 267, 3) := by decide +kernel
theorem d_Model_asksOf_42 : decode prog_9_method_63_code 42 = .ok (.aload_n 0, 1) := by decide +kernel
theorem d_Model_asksOf_43 : decode prog_9_method_63_code 43 = .ok (.aload_n 0, 1) := by decide +kernel
theorem d_Model_asksOf_44 : decode prog_9_method_63_code 44 = .ok (.getfield 19, 3) := by decide +kernel
theorem d_Model_asksOf_47 : decode prog_9_method_63_code 47 = .ok (.aload_n 0, 1) := by decide +kernel
theorem d_Model_asksOf_48 : decode prog_9_method_63_code 48 = .ok (.getfield 270, 3) := by decide +kernel
theorem d_Model_asksOf_51 : decode prog_9_method_63_code 51 = .ok (.iaload, 1) := by decide +kernel
theorem d_Model_asksOf_52 : decode prog_9_method_63_code 52 = .ok (.iload_n 2, 1) := by decide +kernel
theorem d_Model_asksOf_53 : decode prog_9_method_63_code 53 = .ok (.invokevirtual 273, 3) := by decide +kernel
theorem d_Model_asksOf_56 : decode prog_9_method_63_code 56 = .ok (.iconst 2, 1) := by decide +kernel
theorem d_Model_asksOf_57 : decode prog_9_method_63_code 57 = .ok (.imul, 1) := by decide +kernel
theorem d_Model_asksOf_58 : decode prog_9_method_63_code 58 = .ok (.ireturn, 1) := by decide +kernel
theorem d_Model_asksOf_59 : decode prog_9_method_63_code 59 = .ok (.aload_n 0, 1) := by decide +kernel
theorem d_Model_asksOf_60 : decode prog_9_method_63_code 60 = .ok (.bipush 40, 2) := by decide +kernel
theorem d_Model_asksOf_62 : decode prog_9_method_63_code 62 = .ok (.invokevirtual 267, 3) := by decide +kernel
theorem d_Model_asksOf_65 : decode prog_9_method_63_code 65 = .ok (.aload_n 0, 1) := by decide +kernel
theorem d_Model_asksOf_66 : decode prog_9_method_63_code 66 = .ok (.iconst 3, 1) := by decide +kernel
theorem d_Model_asksOf_67 : decode prog_9_method_63_code 67 = .ok (.invokestatic 131, 3) := by decide +kernel
theorem d_Model_asksOf_70 : decode prog_9_method_63_code 70 = .ok (.iload_n 2, 1) := by decide +kernel
theorem d_Model_asksOf_71 : decode prog_9_method_63_code 71 = .ok (.invokevirtual 276, 3) := by decide +kernel
theorem d_Model_asksOf_74 : decode prog_9_method_63_code 74 = .ok (.iconst 1, 1) := by decide +kernel
theorem d_Model_asksOf_75 : decode prog_9_method_63_code 75 = .ok (.isub, 1) := by decide +kernel
theorem d_Model_asksOf_76 : decode prog_9_method_63_code 76 = .ok (.ireturn, 1) := by decide +kernel
theorem d_Model_asksOf_77 : decode prog_9_method_63_code 77 = .ok (.aload_n 0, 1) := by decide +kernel
theorem d_Model_asksOf_78 : decode prog_9_method_63_code 78 = .ok (.bipush 80, 2) := by decide +kernel
theorem d_Model_asksOf_80 : decode prog_9_method_63_code 80 = .ok (.invokevirtual 267, 3) := by decide +kernel
theorem d_Model_asksOf_83 : decode prog_9_method_63_code 83 = .ok (.aload_n 0, 1) := by decide +kernel
theorem d_Model_asksOf_84 : decode prog_9_method_63_code 84 = .ok (.bipush 7, 2) := by decide +kernel
theorem d_Model_asksOf_86 : decode prog_9_method_63_code 86 = .ok (.invokestatic 131, 3) := by decide +kernel
theorem d_Model_asksOf_89 : decode prog_9_method_63_code 89 = .ok (.iload_n 2, 1) := by decide +kernel
theorem d_Model_asksOf_90 : decode prog_9_method_63_code 90 = .ok (.invokevirtual 276, 3) := by decide +kernel
theorem d_Model_asksOf_93 : decode prog_9_method_63_code 93 = .ok (.istore_n 3, 1) := by decide +kernel
theorem d_Model_asksOf_94 : decode prog_9_method_63_code 94 = .ok (.iload_n 3, 1) := by decide +kernel
theorem d_Model_asksOf_95 : decode prog_9_method_63_code 95 = .ok (.aload_n 0, 1) := by decide +kernel
theorem d_Model_asksOf_96 : decode prog_9_method_63_code 96 = .ok (.bipush 7, 2) := by decide +kernel
theorem d_Model_asksOf_98 : decode prog_9_method_63_code 98 = .ok (.invokestatic 131, 3) := by decide +kernel
theorem d_Model_asksOf_101 : decode prog_9_method_63_code 101 = .ok (.iload_n 2, 1) := by decide +kernel
theorem d_Model_asksOf_102 : decode prog_9_method_63_code 102 = .ok (.invokevirtual 273, 3) := by decide +kernel
theorem d_Model_asksOf_105 : decode prog_9_method_63_code 105 = .ok (.iadd, 1) := by decide +kernel
theorem d_Model_asksOf_106 : decode prog_9_method_63_code 106 = .ok (.ireturn, 1) := by decide +kernel
theorem d_Model_asksOf_107 : decode prog_9_method_63_code 107 = .ok (.aload_n 0, 1) := by decide +kernel
theorem d_Model_asksOf_108 : decode prog_9_method_63_code 108 = .ok (.iload_n 1, 1) := by decide +kernel
theorem d_Model_asksOf_109 : decode prog_9_method_63_code 109 = .ok (.invokestatic 131, 3) := by decide +kernel
theorem d_Model_asksOf_112 : decode prog_9_method_63_code 112 = .ok (.iload_n 2, 1) := by decide +kernel
theorem d_Model_asksOf_113 : decode prog_9_method_63_code 113 = .ok (.invokevirtual 276, 3) := by decide +kernel
theorem d_Model_asksOf_116 : decode prog_9_method_63_code 116 = .ok (.ireturn, 1) := by decide +kernel
set_option maxHeartbeats 4000000 in
set_option maxRecDepth 100000 in
theorem r_Model_asksOf_0 {p : Program} {l : Launch} {e : Env} {s : State} {m : MethodId} {args : Array Value} {below : List Frame} {meth : Method} {c : Code} {G : zG} {K : Nat} {n0 : Nat} (X : zX p s m args meth c "AllHomeModel" prog_9_method_63_code 4 (some .int) G (zA G K)) {r : Int32} {h' : zH} (kk : (Nat × Int32 × Int32 × zH) → Option (Int32 × zH)) (hkk : ∀ (w : Nat × Int32 × Int32 × zH) (r : Int32) (h' : zH), kk w = some (r, h') → zMi l G K y_Model_asksOf prog_9_method_63_code 4 (n0 + 42) [.ref (G.1 w.1), .int w.2.1, .int w.2.2.1] w.2.2.2 r h') (u : Nat × Int32 × Int32 × zH) (hm : g_Model_asksOf_0 kk u = some (r, h')) {H : Heap} {locs : List Loc} {ls : Array Slot} (hI : zI G K s (zA G K) H locs u.2.2.2) (hl : lv_has ls 4 [(0, .ref (G.1 u.1)), (1, .int u.2.1), (2, .int u.2.2.1)]) : W p l e (zR (n0 + 43)) s m args below meth c H locs 0 0 (MQ below (zQi G K r h') args s 0 0 (zA G K)) (F0 m 0 ls []) := by
  obtain ⟨hx, hb, hml, hown, hts, hr, hlocks, hK, hST, hNs⟩ := id X
  unfold g_Model_asksOf_0 at hm
  refine lv_iload_n hx hb d_Model_asksOf_0 rfl (lv_at hl 1 rfl) ?_
  by_cases hs1_0 : u.2.1 = (nI 0)
  · replace hm := zif_t hs1_0 hm
    refine lv_lookup (off := 35) (tgt := 36) hx hb d_Model_asksOf_1 (by decide) (by rw [hs1_0]; decide) (by decide) ?_
    refine lv_aload_n hx hb d_Model_asksOf_36 rfl (lv_at hl 0 rfl) ?_
    refine lv_bipush (v := (nI 10)) hx hb d_Model_asksOf_37 (by decide) ?_
    obtain ⟨h39, hv, hm⟩ := zbd hm
    obtain ⟨hq, hv⟩ := zcv_at hv
    refine z_cv hI (z_runV (As := [.int (nI 10)]) (rest := []) X hI hl.1 (c_Model_ranBody l G K u.1 (nI 10) u.2.2.2 _ hv) C_Model_267 rfl hq (Nat.le_of_ble_eq_true rfl) ⟨by simp only [zR]; omega, by simp only [zR]; omega, Nat.zero_le _, Nat.zero_le _⟩ rfl d_Model_asksOf_39) (fun H locs hI => ?_)
    refine lv_aload_n hx hb d_Model_asksOf_42 rfl (lv_at hl 0 rfl) ?_
    refine lv_aload_n hx hb d_Model_asksOf_43 rfl (lv_at hl 0 rfl) ?_
    obtain ⟨v44, hv, hm⟩ := zbd hm
    refine z_getR X hI F_Model_19 hv d_Model_asksOf_44 ?_
    refine lv_aload_n hx hb d_Model_asksOf_47 rfl (lv_at hl 0 rfl) ?_
    obtain ⟨v48, hv, hm⟩ := zbd hm
    refine z_getI X hI F_Model_270 hv d_Model_asksOf_48 ?_
    obtain ⟨v51, hv, hm⟩ := zbd hm
    refine z_iald X hI hv d_Model_asksOf_51 ?_
    refine lv_iload_n hx hb d_Model_asksOf_52 rfl (lv_at hl 2 rfl) ?_
    obtain ⟨v53, h53, hv, hm⟩ := zb2_at hm
    obtain ⟨hq, hv⟩ := zcv_at hv
    refine z_ci hI (z_runV (As := [.int v51, .int u.2.2.1]) (rest := []) X hI hl.1 (c_Model_sends l G K 40 u.1 v51 u.2.2.1 h39 _ _ hv) C_Model_273 rfl hq (Nat.le_of_ble_eq_true rfl) ⟨by simp only [zR]; omega, by simp only [zR]; omega, Nat.zero_le _, Nat.zero_le _⟩ rfl d_Model_asksOf_53) (fun H locs hI => ?_)
    refine lv_iconst (v := (nI 2)) hx hb d_Model_asksOf_56 (by decide) ?_
    refine lv_imul hx hb d_Model_asksOf_57 ?_
    obtain ⟨rfl, rfl⟩ := zs2 hm
    exact z_iret X hI d_Model_asksOf_58
  · replace hm := zif_f hs1_0 hm
    by_cases hs1_1 : u.2.1 = (nI 3)
    · replace hm := zif_t hs1_1 hm
      refine lv_lookup (off := 58) (tgt := 59) hx hb d_Model_asksOf_1 (by decide) (by rw [hs1_1]; decide) (by decide) ?_
      refine lv_aload_n hx hb d_Model_asksOf_59 rfl (lv_at hl 0 rfl) ?_
      refine lv_bipush (v := (nI 40)) hx hb d_Model_asksOf_60 (by decide) ?_
      obtain ⟨h62, hv, hm⟩ := zbd hm
      obtain ⟨hq, hv⟩ := zcv_at hv
      refine z_cv hI (z_runV (As := [.int (nI 40)]) (rest := []) X hI hl.1 (c_Model_ranBody l G K u.1 (nI 40) u.2.2.2 _ hv) C_Model_267 rfl hq (Nat.le_of_ble_eq_true rfl) ⟨by simp only [zR]; omega, by simp only [zR]; omega, Nat.zero_le _, Nat.zero_le _⟩ rfl d_Model_asksOf_62) (fun H locs hI => ?_)
      refine lv_aload_n hx hb d_Model_asksOf_65 rfl (lv_at hl 0 rfl) ?_
      refine lv_iconst (v := (nI 3)) hx hb d_Model_asksOf_66 (by decide) ?_
      obtain ⟨v67, hv, hm⟩ := zbd hm
      refine z_ci hI (z_runS (As := [.int (nI 3)]) (rest := [.ref (G.1 u.1)]) X hI hl.1 (c_Model_above l G K (nI 3) h62 _ hv) C_Model_131 rfl (Nat.le_of_ble_eq_true rfl) ⟨by simp only [zR]; omega, by simp only [zR]; omega, Nat.zero_le _, Nat.zero_le _⟩ rfl d_Model_asksOf_67) (fun H locs hI => ?_)
      refine lv_iload_n hx hb d_Model_asksOf_70 rfl (lv_at hl 2 rfl) ?_
      obtain ⟨v71, h71, hv, hm⟩ := zb2_at hm
      obtain ⟨hq, hv⟩ := zcv_at hv
      refine z_ci hI (z_runV (As := [.int v67, .int u.2.2.1]) (rest := []) X hI hl.1 (hkk _ _ _ hv) C_Model_276 rfl hq (Nat.le_of_ble_eq_true rfl) ⟨by simp only [zR]; omega, by simp only [zR]; omega, Nat.zero_le _, Nat.zero_le _⟩ rfl d_Model_asksOf_71) (fun H locs hI => ?_)
      refine lv_iconst (v := (nI 1)) hx hb d_Model_asksOf_74 (by decide) ?_
      refine lv_isub hx hb d_Model_asksOf_75 ?_
      obtain ⟨rfl, rfl⟩ := zs2 hm
      exact z_iret X hI d_Model_asksOf_76
    · replace hm := zif_f hs1_1 hm
      by_cases hs1_2 : u.2.1 = (nI 7)
      · replace hm := zif_t hs1_2 hm
        refine lv_lookup (off := 76) (tgt := 77) hx hb d_Model_asksOf_1 (by decide) (by rw [hs1_2]; decide) (by decide) ?_
        refine lv_aload_n hx hb d_Model_asksOf_77 rfl (lv_at hl 0 rfl) ?_
        refine lv_bipush (v := (nI 80)) hx hb d_Model_asksOf_78 (by decide) ?_
        obtain ⟨h80, hv, hm⟩ := zbd hm
        obtain ⟨hq, hv⟩ := zcv_at hv
        refine z_cv hI (z_runV (As := [.int (nI 80)]) (rest := []) X hI hl.1 (c_Model_ranBody l G K u.1 (nI 80) u.2.2.2 _ hv) C_Model_267 rfl hq (Nat.le_of_ble_eq_true rfl) ⟨by simp only [zR]; omega, by simp only [zR]; omega, Nat.zero_le _, Nat.zero_le _⟩ rfl d_Model_asksOf_80) (fun H locs hI => ?_)
        refine lv_aload_n hx hb d_Model_asksOf_83 rfl (lv_at hl 0 rfl) ?_
        refine lv_bipush (v := (nI 7)) hx hb d_Model_asksOf_84 (by decide) ?_
        obtain ⟨v86, hv, hm⟩ := zbd hm
        refine z_ci hI (z_runS (As := [.int (nI 7)]) (rest := [.ref (G.1 u.1)]) X hI hl.1 (c_Model_above l G K (nI 7) h80 _ hv) C_Model_131 rfl (Nat.le_of_ble_eq_true rfl) ⟨by simp only [zR]; omega, by simp only [zR]; omega, Nat.zero_le _, Nat.zero_le _⟩ rfl d_Model_asksOf_86) (fun H locs hI => ?_)
        refine lv_iload_n hx hb d_Model_asksOf_89 rfl (lv_at hl 2 rfl) ?_
        obtain ⟨v90, h90, hv, hm⟩ := zb2_at hm
        obtain ⟨hq, hv⟩ := zcv_at hv
        refine z_ci hI (z_runV (As := [.int v86, .int u.2.2.1]) (rest := []) X hI hl.1 (hkk _ _ _ hv) C_Model_276 rfl hq (Nat.le_of_ble_eq_true rfl) ⟨by simp only [zR]; omega, by simp only [zR]; omega, Nat.zero_le _, Nat.zero_le _⟩ rfl d_Model_asksOf_90) (fun H locs hI => ?_)
        refine lv_istore_n (lv' := [(3, .int v90), (0, .ref (G.1 u.1)), (1, .int u.2.1), (2, .int u.2.2.1)]) hx hb d_Model_asksOf_93 rfl hl (by decide) rfl (fun ls hl => ?_)
        refine lv_iload_n hx hb d_Model_asksOf_94 rfl (lv_at hl 0 rfl) ?_
        refine lv_aload_n hx hb d_Model_asksOf_95 rfl (lv_at hl 1 rfl) ?_
        refine lv_bipush (v := (nI 7)) hx hb d_Model_asksOf_96 (by decide) ?_
        obtain ⟨v98, hv, hm⟩ := zbd hm
        refine z_ci hI (z_runS (As := [.int (nI 7)]) (rest := [.ref (G.1 u.1), .int v90]) X hI hl.1 (c_Model_above l G K (nI 7) h90 _ hv) C_Model_131 rfl (Nat.le_of_ble_eq_true rfl) ⟨by simp only [zR]; omega, by simp only [zR]; omega, Nat.zero_le _, Nat.zero_le _⟩ rfl d_Model_asksOf_98) (fun H locs hI => ?_)
        refine lv_iload_n hx hb d_Model_asksOf_101 rfl (lv_at hl 3 rfl) ?_
        obtain ⟨v102, h102, hv, hm⟩ := zb2_at hm
        obtain ⟨hq, hv⟩ := zcv_at hv
        refine z_ci hI (z_runV (As := [.int v98, .int u.2.2.1]) (rest := [.int v90]) X hI hl.1 (c_Model_sends l G K 40 u.1 v98 u.2.2.1 h90 _ _ hv) C_Model_273 rfl hq (Nat.le_of_ble_eq_true rfl) ⟨by simp only [zR]; omega, by simp only [zR]; omega, Nat.zero_le _, Nat.zero_le _⟩ rfl d_Model_asksOf_102) (fun H locs hI => ?_)
        refine lv_iadd hx hb d_Model_asksOf_105 ?_
        obtain ⟨rfl, rfl⟩ := zs2 hm
        exact z_iret X hI d_Model_asksOf_106
      · replace hm := zif_f hs1_2 hm
        have he0 : ¬ (0 : Int) = (u.2.1).toInt := fun q => hs1_0 (Int32.toInt_inj.mp (q.symm.trans (by decide)))
        have he1 : ¬ (3 : Int) = (u.2.1).toInt := fun q => hs1_1 (Int32.toInt_inj.mp (q.symm.trans (by decide)))
        have he2 : ¬ (7 : Int) = (u.2.1).toInt := fun q => hs1_2 (Int32.toInt_inj.mp (q.symm.trans (by decide)))
        refine lv_lookup (off := 106) (tgt := 107) hx hb d_Model_asksOf_1 (by decide) (by simp [Op.lookupswitch.offset, List.find?, he0, he1, he2]) (by decide) ?_
        refine lv_aload_n hx hb d_Model_asksOf_107 rfl (lv_at hl 0 rfl) ?_
        refine lv_iload_n hx hb d_Model_asksOf_108 rfl (lv_at hl 1 rfl) ?_
        obtain ⟨v109, hv, hm⟩ := zbd hm
        refine z_ci hI (z_runS (As := [.int u.2.1]) (rest := [.ref (G.1 u.1)]) X hI hl.1 (c_Model_above l G K u.2.1 u.2.2.2 _ hv) C_Model_131 rfl (Nat.le_of_ble_eq_true rfl) ⟨by simp only [zR]; omega, by simp only [zR]; omega, Nat.zero_le _, Nat.zero_le _⟩ rfl d_Model_asksOf_109) (fun H locs hI => ?_)
        refine lv_iload_n hx hb d_Model_asksOf_112 rfl (lv_at hl 2 rfl) ?_
        obtain ⟨v113, h113, hv, hm⟩ := zb2_at hm
        obtain ⟨hq, hv⟩ := zcv_at hv
        refine z_ci hI (z_runV (As := [.int v109, .int u.2.2.1]) (rest := []) X hI hl.1 (hkk _ _ _ hv) C_Model_276 rfl hq (Nat.le_of_ble_eq_true rfl) ⟨by simp only [zR]; omega, by simp only [zR]; omega, Nat.zero_le _, Nat.zero_le _⟩ rfl d_Model_asksOf_113) (fun H locs hI => ?_)
        obtain ⟨rfl, rfl⟩ := zs2 hm
        exact z_iret X hI d_Model_asksOf_116
set_option maxHeartbeats 4000000 in
set_option maxRecDepth 100000 in
theorem cz_Model_asksOf (l : Launch) (G : zG) (K : Nat) : ∀ (n : Nat) (w : Nat × Int32 × Int32 × zH) (r : Int32) (h' : zH), zloop g_Model_asksOf_0 n w = some (r, h') → zMi l G K y_Model_asksOf prog_9_method_63_code 4 (n + 42) [.ref (G.1 w.1), .int w.2.1, .int w.2.2.1] w.2.2.2 r h' := by
  intro n
  induction n with
  | zero => intro w r h' hm; cases hm
  | succ n ih =>
    intro w r h' hm
    have hm : g_Model_asksOf_0 (zloop g_Model_asksOf_0 n) w = some (r, h') := zls hm
    have E : n + 1 + 42 = n + 43 := by omega
    rw [E]
    exact zMet (by decide +kernel) (Nat.le_of_ble_eq_true rfl) (fun p e s m below meth c ls X hI hl => r_Model_asksOf_0 (n0 := n) X (zloop g_Model_asksOf_0 n) ih w hm hI hl)
theorem c_Model_asksOf (l : Launch) (G : zG) (K : Nat) (n : Nat) (a0 : Nat) (x1 : Int32) (x2 : Int32) (h : zH) (r : Int32) (h' : zH) (hm : m_Model_asksOf n a0 x1 x2 h = some (r, h')) : zMi l G K y_Model_asksOf prog_9_method_63_code 4 (n + 42) [.ref (G.1 a0), .int x1, .int x2] h r h' := cz_Model_asksOf l G K n (a0, x1, x2, h) r h' hm
-- walk of AllHomeModel.owes
theorem d_Model_owes_0 : decode prog_9_method_64_code 0 = .ok (.iload_n 1, 1) := by decide +kernel
theorem d_Model_owes_1 : decode prog_9_method_64_code 1 = .ok (.tableswitch 125 0 6 #[43, 125, 56, 125, 125, 89, 107], 43) := by decide +kernel
theorem d_Model_owes_44 : decode prog_9_method_64_code 44 = .ok (.aload_n 0, 1) := by decide +kernel
theorem d_Model_owes_45 : decode prog_9_method_64_code 45 = .ok (.bipush 11, 2) := by decide +kernel
theorem d_Model_owes_47 : decode prog_9_method_64_code 47 = .ok (.invokevirtual 267, 3) := by decide +kernel
theorem d_Model_owes_50 : decode prog_9_method_64_code 50 = .ok (.iload_n 2, 1) := by decide +kernel
theorem d_Model_owes_51 : decode prog_9_method_64_code 51 = .ok (.aload_n 0, 1) := by decide +kernel
theorem d_Model_owes_52 : decode prog_9_method_64_code 52 = .ok (.getfield 270, 3) := by decide +kernel
theorem d_Model_owes_55 : decode prog_9_method_64_code 55 = .ok (.ixor, 1) := by decide +kernel
theorem d_Model_owes_56 : decode prog_9_method_64_code 56 = .ok (.ireturn, 1) := by decide +kernel
theorem d_Model_owes_57 : decode prog_9_method_64_code 57 = .ok (.aload_n 0, 1) := by decide +kernel
theorem d_Model_owes_58 : decode prog_9_method_64_code 58 = .ok (.bipush 30, 2) := by decide +kernel
theorem d_Model_owes_60 : decode prog_9_method_64_code 60 = .ok (.invokevirtual 267, 3) := by decide +kernel
theorem d_Model_owes_63 : decode prog_9_method_64_code 63 = .ok (.aload_n 0, 1) := by decide +kernel
theorem d_Model_owes_64 : decode prog_9_method_64_code 64 = .ok (.iconst 2, 1) := by decide +kernel
theorem d_Model_owes_65 : decode prog_9_method_64_code 65 = .ok (.invokestatic 131, 3) := by decide +kernel
theorem d_Model_owes_68 : decode prog_9_method_64_code 68 = .ok (.iload_n 2, 1) := by decide +kernel
theorem d_Model_owes_69 : decode prog_9_method_64_code 69 = .ok (.invokevirtual 279, 3) := by decide +kernel
theorem d_Model_owes_72 : decode prog_9_method_64_code 72 = .ok (.istore_n 3, 1) := by decide +kernel
theorem d_Model_owes_73 : decode prog_9_method_64_code 73 = .ok (.iload_n 3, 1) := by decide +kernel
theorem d_Model_owes_74 : decode prog_9_method_64_code 74 = .ok (.aload_n 0, 1) := by decide +kernel
theorem d_Model_owes_75 : decode prog_9_method_64_code 75 = .ok (.aload_n 0, 1) := by decide +kernel
theorem d_Model_owes_76 : decode prog_9_method_64_code 76 = .ok (.getfield 19, 3) := by decide +kernel
theorem d_Model_owes_79 : decode prog_9_method_64_code 79 = .ok (.aload_n 0, 1) := by decide +kernel
theorem d_Model_owes_80 : decode prog_9_method_64_code 80 = .ok (.getfield 270, 3) := by decide +kernel
theorem d_Model_owes_83 : decode prog_9_method_64_code 83 = .ok (.iaload, 1) := by decide +kernel
theorem d_Model_owes_84 : decode prog_9_method_64_code 84 = .ok (.iconst 2, 1) := by decide +kernel
theorem d_Model_owes_85 : decode prog_9_method_64_code 85 = .ok (.invokevirtual 273, 3) := by decide +kernel
theorem d_Model_owes_88 : decode prog_9_method_64_code 88 = .ok (.iadd, 1) := by decide +kernel
theorem d_Model_owes_89 : decode prog_9_method_64_code 89 = .ok (.ireturn, 1) := by decide +kernel
theorem d_Model_owes_90 : decode prog_9_method_64_code 90 = .ok (.aload_n 0, 1) := by decide +kernel
theorem d_Model_owes_91 : decode prog_9_method_64_code 91 = .ok (.bipush 61, 2) := by decide +kernel
theorem d_Model_owes_93 : decode prog_9_method_64_code 93 = .ok (.invokevirtual 267, 3) := by decide +kernel
theorem d_Model_owes_96 : decode prog_9_method_64_code 96 = .ok (.aload_n 0, 1) := by decide +kernel
theorem d_Model_owes_97 : decode prog_9_method_64_code 97 = .ok (.iconst 5, 1) := by decide +kernel
theorem d_Model_owes_98 : decode prog_9_method_64_code 98 = .ok (.invokestatic 131, 3) := by decide +kernel
theorem d_Model_owes_101 : decode prog_9_method_64_code 101 = .ok (.iload_n 2, 1) := by decide +kernel
theorem d_Model_owes_102 : decode prog_9_method_64_code 102 = .ok (.iconst 1, 1) := by decide +kernel
theorem d_Model_owes_103 : decode prog_9_method_64_code 103 = .ok (.iadd, 1) := by decide +kernel
theorem d_Model_owes_104 : decode prog_9_method_64_code 104 = .ok (.invokevirtual 279, 3) := by decide +kernel
theorem d_Model_owes_107 : decode prog_9_method_64_code 107 = .ok (.ireturn, 1) := by decide +kernel
theorem d_Model_owes_108 : decode prog_9_method_64_code 108 = .ok (.aload_n 0, 1) := by decide +kernel
theorem d_Model_owes_109 : decode prog_9_method_64_code 109 = .ok (.bipush 70, 2) := by decide +kernel
theorem d_Model_owes_111 : decode prog_9_method_64_code 111 = .ok (.invokevirtual 267, 3) := by decide +kernel
theorem d_Model_owes_114 : decode prog_9_method_64_code 114 = .ok (.aload_n 0, 1) := by decide +kernel
theorem d_Model_owes_115 : decode prog_9_method_64_code 115 = .ok (.bipush 6, 2) := by decide +kernel
theorem d_Model_owes_117 : decode prog_9_method_64_code 117 = .ok (.invokestatic 131, 3) := by decide +kernel
theorem d_Model_owes_120 : decode prog_9_method_64_code 120 = .ok (.iload_n 2, 1) := by decide +kernel
theorem d_Model_owes_121 : decode prog_9_method_64_code 121 = .ok (.invokevirtual 279, 3) := by decide +kernel
theorem d_Model_owes_124 : decode prog_9_method_64_code 124 = .ok (.ineg, 1) := by decide +kernel
theorem d_Model_owes_125 : decode prog_9_method_64_code 125 = .ok (.ireturn, 1) := by decide +kernel
theorem d_Model_owes_126 : decode prog_9_method_64_code 126 = .ok (.aload_n 0, 1) := by decide +kernel
theorem d_Model_owes_127 : decode prog_9_method_64_code 127 = .ok (.iload_n 1, 1) := by decide +kernel
theorem d_Model_owes_128 : decode prog_9_method_64_code 128 = .ok (.invokestatic 131, 3) := by decide +kernel
theorem d_Model_owes_131 : decode prog_9_method_64_code 131 = .ok (.iload_n 2, 1) := by decide +kernel
theorem d_Model_owes_132 : decode prog_9_method_64_code 132 = .ok (.invokevirtual 279, 3) := by decide +kernel
theorem d_Model_owes_135 : decode prog_9_method_64_code 135 = .ok (.ireturn, 1) := by decide +kernel
set_option maxHeartbeats 4000000 in
set_option maxRecDepth 100000 in
theorem r_Model_owes_0 {p : Program} {l : Launch} {e : Env} {s : State} {m : MethodId} {args : Array Value} {below : List Frame} {meth : Method} {c : Code} {G : zG} {K : Nat} {n0 : Nat} (X : zX p s m args meth c "AllHomeModel" prog_9_method_64_code 4 (some .int) G (zA G K)) {r : Int32} {h' : zH} (kk : (Nat × Int32 × Int32 × zH) → Option (Int32 × zH)) (hkk : ∀ (w : Nat × Int32 × Int32 × zH) (r : Int32) (h' : zH), kk w = some (r, h') → zMi l G K y_Model_owes prog_9_method_64_code 4 (n0 + 42) [.ref (G.1 w.1), .int w.2.1, .int w.2.2.1] w.2.2.2 r h') (u : Nat × Int32 × Int32 × zH) (hm : g_Model_owes_0 kk u = some (r, h')) {H : Heap} {locs : List Loc} {ls : Array Slot} (hI : zI G K s (zA G K) H locs u.2.2.2) (hl : lv_has ls 4 [(0, .ref (G.1 u.1)), (1, .int u.2.1), (2, .int u.2.2.1)]) : W p l e (zR (n0 + 43)) s m args below meth c H locs 0 0 (MQ below (zQi G K r h') args s 0 0 (zA G K)) (F0 m 0 ls []) := by
  obtain ⟨hx, hb, hml, hown, hts, hr, hlocks, hK, hST, hNs⟩ := id X
  unfold g_Model_owes_0 at hm
  refine lv_iload_n hx hb d_Model_owes_0 rfl (lv_at hl 1 rfl) ?_
  by_cases hs1_0 : u.2.1 = (nI 0)
  · replace hm := zif_t hs1_0 hm
    refine lv_tableIn (off := 43) (tgt := 44) hx hb d_Model_owes_1 (by rw [hs1_0]; decide) (by rw [hs1_0]; decide) (by rw [hs1_0]; rfl) (by decide) ?_
    refine lv_aload_n hx hb d_Model_owes_44 rfl (lv_at hl 0 rfl) ?_
    refine lv_bipush (v := (nI 11)) hx hb d_Model_owes_45 (by decide) ?_
    obtain ⟨h47, hv, hm⟩ := zbd hm
    obtain ⟨hq, hv⟩ := zcv_at hv
    refine z_cv hI (z_runV (As := [.int (nI 11)]) (rest := []) X hI hl.1 (c_Model_ranBody l G K u.1 (nI 11) u.2.2.2 _ hv) C_Model_267 rfl hq (Nat.le_of_ble_eq_true rfl) ⟨by simp only [zR]; omega, by simp only [zR]; omega, Nat.zero_le _, Nat.zero_le _⟩ rfl d_Model_owes_47) (fun H locs hI => ?_)
    refine lv_iload_n hx hb d_Model_owes_50 rfl (lv_at hl 2 rfl) ?_
    refine lv_aload_n hx hb d_Model_owes_51 rfl (lv_at hl 0 rfl) ?_
    obtain ⟨v52, hv, hm⟩ := zbd hm
    refine z_getI X hI F_Model_270 hv d_Model_owes_52 ?_
    refine lv_ixor hx hb d_Model_owes_55 ?_
    obtain ⟨rfl, rfl⟩ := zs2 hm
    exact z_iret X hI d_Model_owes_56
  · replace hm := zif_f hs1_0 hm
    by_cases hs1_1 : u.2.1 = (nI 1)
    · replace hm := zif_t hs1_1 hm
      refine lv_tableIn (off := 125) (tgt := 126) hx hb d_Model_owes_1 (by rw [hs1_1]; decide) (by rw [hs1_1]; decide) (by rw [hs1_1]; rfl) (by decide) ?_
      refine lv_aload_n hx hb d_Model_owes_126 rfl (lv_at hl 0 rfl) ?_
      refine lv_iload_n hx hb d_Model_owes_127 rfl (lv_at hl 1 rfl) ?_
      obtain ⟨v128, hv, hm⟩ := zbd hm
      refine z_ci hI (z_runS (As := [.int u.2.1]) (rest := [.ref (G.1 u.1)]) X hI hl.1 (c_Model_above l G K u.2.1 u.2.2.2 _ hv) C_Model_131 rfl (Nat.le_of_ble_eq_true rfl) ⟨by simp only [zR]; omega, by simp only [zR]; omega, Nat.zero_le _, Nat.zero_le _⟩ rfl d_Model_owes_128) (fun H locs hI => ?_)
      refine lv_iload_n hx hb d_Model_owes_131 rfl (lv_at hl 2 rfl) ?_
      obtain ⟨v132, h132, hv, hm⟩ := zb2_at hm
      obtain ⟨hq, hv⟩ := zcv_at hv
      refine z_ci hI (z_runV (As := [.int v128, .int u.2.2.1]) (rest := []) X hI hl.1 (hkk _ _ _ hv) C_Model_279 rfl hq (Nat.le_of_ble_eq_true rfl) ⟨by simp only [zR]; omega, by simp only [zR]; omega, Nat.zero_le _, Nat.zero_le _⟩ rfl d_Model_owes_132) (fun H locs hI => ?_)
      obtain ⟨rfl, rfl⟩ := zs2 hm
      exact z_iret X hI d_Model_owes_135
    · replace hm := zif_f hs1_1 hm
      by_cases hs1_2 : u.2.1 = (nI 2)
      · replace hm := zif_t hs1_2 hm
        refine lv_tableIn (off := 56) (tgt := 57) hx hb d_Model_owes_1 (by rw [hs1_2]; decide) (by rw [hs1_2]; decide) (by rw [hs1_2]; rfl) (by decide) ?_
        refine lv_aload_n hx hb d_Model_owes_57 rfl (lv_at hl 0 rfl) ?_
        refine lv_bipush (v := (nI 30)) hx hb d_Model_owes_58 (by decide) ?_
        obtain ⟨h60, hv, hm⟩ := zbd hm
        obtain ⟨hq, hv⟩ := zcv_at hv
        refine z_cv hI (z_runV (As := [.int (nI 30)]) (rest := []) X hI hl.1 (c_Model_ranBody l G K u.1 (nI 30) u.2.2.2 _ hv) C_Model_267 rfl hq (Nat.le_of_ble_eq_true rfl) ⟨by simp only [zR]; omega, by simp only [zR]; omega, Nat.zero_le _, Nat.zero_le _⟩ rfl d_Model_owes_60) (fun H locs hI => ?_)
        refine lv_aload_n hx hb d_Model_owes_63 rfl (lv_at hl 0 rfl) ?_
        refine lv_iconst (v := (nI 2)) hx hb d_Model_owes_64 (by decide) ?_
        obtain ⟨v65, hv, hm⟩ := zbd hm
        refine z_ci hI (z_runS (As := [.int (nI 2)]) (rest := [.ref (G.1 u.1)]) X hI hl.1 (c_Model_above l G K (nI 2) h60 _ hv) C_Model_131 rfl (Nat.le_of_ble_eq_true rfl) ⟨by simp only [zR]; omega, by simp only [zR]; omega, Nat.zero_le _, Nat.zero_le _⟩ rfl d_Model_owes_65) (fun H locs hI => ?_)
        refine lv_iload_n hx hb d_Model_owes_68 rfl (lv_at hl 2 rfl) ?_
        obtain ⟨v69, h69, hv, hm⟩ := zb2_at hm
        obtain ⟨hq, hv⟩ := zcv_at hv
        refine z_ci hI (z_runV (As := [.int v65, .int u.2.2.1]) (rest := []) X hI hl.1 (hkk _ _ _ hv) C_Model_279 rfl hq (Nat.le_of_ble_eq_true rfl) ⟨by simp only [zR]; omega, by simp only [zR]; omega, Nat.zero_le _, Nat.zero_le _⟩ rfl d_Model_owes_69) (fun H locs hI => ?_)
        refine lv_istore_n (lv' := [(3, .int v69), (0, .ref (G.1 u.1)), (1, .int u.2.1), (2, .int u.2.2.1)]) hx hb d_Model_owes_72 rfl hl (by decide) rfl (fun ls hl => ?_)
        refine lv_iload_n hx hb d_Model_owes_73 rfl (lv_at hl 0 rfl) ?_
        refine lv_aload_n hx hb d_Model_owes_74 rfl (lv_at hl 1 rfl) ?_
        refine lv_aload_n hx hb d_Model_owes_75 rfl (lv_at hl 1 rfl) ?_
        obtain ⟨v76, hv, hm⟩ := zbd hm
        refine z_getR X hI F_Model_19 hv d_Model_owes_76 ?_
        refine lv_aload_n hx hb d_Model_owes_79 rfl (lv_at hl 1 rfl) ?_
        obtain ⟨v80, hv, hm⟩ := zbd hm
        refine z_getI X hI F_Model_270 hv d_Model_owes_80 ?_
        obtain ⟨v83, hv, hm⟩ := zbd hm
        refine z_iald X hI hv d_Model_owes_83 ?_
        refine lv_iconst (v := (nI 2)) hx hb d_Model_owes_84 (by decide) ?_
        obtain ⟨v85, h85, hv, hm⟩ := zb2_at hm
        obtain ⟨hq, hv⟩ := zcv_at hv
        refine z_ci hI (z_runV (As := [.int v83, .int (nI 2)]) (rest := [.int v69]) X hI hl.1 (c_Model_sends l G K 40 u.1 v83 (nI 2) h69 _ _ hv) C_Model_273 rfl hq (Nat.le_of_ble_eq_true rfl) ⟨by simp only [zR]; omega, by simp only [zR]; omega, Nat.zero_le _, Nat.zero_le _⟩ rfl d_Model_owes_85) (fun H locs hI => ?_)
        refine lv_iadd hx hb d_Model_owes_88 ?_
        obtain ⟨rfl, rfl⟩ := zs2 hm
        exact z_iret X hI d_Model_owes_89
      · replace hm := zif_f hs1_2 hm
        by_cases hs1_3 : u.2.1 = (nI 3)
        · replace hm := zif_t hs1_3 hm
          refine lv_tableIn (off := 125) (tgt := 126) hx hb d_Model_owes_1 (by rw [hs1_3]; decide) (by rw [hs1_3]; decide) (by rw [hs1_3]; rfl) (by decide) ?_
          refine lv_aload_n hx hb d_Model_owes_126 rfl (lv_at hl 0 rfl) ?_
          refine lv_iload_n hx hb d_Model_owes_127 rfl (lv_at hl 1 rfl) ?_
          obtain ⟨v128, hv, hm⟩ := zbd hm
          refine z_ci hI (z_runS (As := [.int u.2.1]) (rest := [.ref (G.1 u.1)]) X hI hl.1 (c_Model_above l G K u.2.1 u.2.2.2 _ hv) C_Model_131 rfl (Nat.le_of_ble_eq_true rfl) ⟨by simp only [zR]; omega, by simp only [zR]; omega, Nat.zero_le _, Nat.zero_le _⟩ rfl d_Model_owes_128) (fun H locs hI => ?_)
          refine lv_iload_n hx hb d_Model_owes_131 rfl (lv_at hl 2 rfl) ?_
          obtain ⟨v132, h132, hv, hm⟩ := zb2_at hm
          obtain ⟨hq, hv⟩ := zcv_at hv
          refine z_ci hI (z_runV (As := [.int v128, .int u.2.2.1]) (rest := []) X hI hl.1 (hkk _ _ _ hv) C_Model_279 rfl hq (Nat.le_of_ble_eq_true rfl) ⟨by simp only [zR]; omega, by simp only [zR]; omega, Nat.zero_le _, Nat.zero_le _⟩ rfl d_Model_owes_132) (fun H locs hI => ?_)
          obtain ⟨rfl, rfl⟩ := zs2 hm
          exact z_iret X hI d_Model_owes_135
        · replace hm := zif_f hs1_3 hm
          by_cases hs1_4 : u.2.1 = (nI 4)
          · replace hm := zif_t hs1_4 hm
            refine lv_tableIn (off := 125) (tgt := 126) hx hb d_Model_owes_1 (by rw [hs1_4]; decide) (by rw [hs1_4]; decide) (by rw [hs1_4]; rfl) (by decide) ?_
            refine lv_aload_n hx hb d_Model_owes_126 rfl (lv_at hl 0 rfl) ?_
            refine lv_iload_n hx hb d_Model_owes_127 rfl (lv_at hl 1 rfl) ?_
            obtain ⟨v128, hv, hm⟩ := zbd hm
            refine z_ci hI (z_runS (As := [.int u.2.1]) (rest := [.ref (G.1 u.1)]) X hI hl.1 (c_Model_above l G K u.2.1 u.2.2.2 _ hv) C_Model_131 rfl (Nat.le_of_ble_eq_true rfl) ⟨by simp only [zR]; omega, by simp only [zR]; omega, Nat.zero_le _, Nat.zero_le _⟩ rfl d_Model_owes_128) (fun H locs hI => ?_)
            refine lv_iload_n hx hb d_Model_owes_131 rfl (lv_at hl 2 rfl) ?_
            obtain ⟨v132, h132, hv, hm⟩ := zb2_at hm
            obtain ⟨hq, hv⟩ := zcv_at hv
            refine z_ci hI (z_runV (As := [.int v128, .int u.2.2.1]) (rest := []) X hI hl.1 (hkk _ _ _ hv) C_Model_279 rfl hq (Nat.le_of_ble_eq_true rfl) ⟨by simp only [zR]; omega, by simp only [zR]; omega, Nat.zero_le _, Nat.zero_le _⟩ rfl d_Model_owes_132) (fun H locs hI => ?_)
            obtain ⟨rfl, rfl⟩ := zs2 hm
            exact z_iret X hI d_Model_owes_135
          · replace hm := zif_f hs1_4 hm
            by_cases hs1_5 : u.2.1 = (nI 5)
            · replace hm := zif_t hs1_5 hm
              refine lv_tableIn (off := 89) (tgt := 90) hx hb d_Model_owes_1 (by rw [hs1_5]; decide) (by rw [hs1_5]; decide) (by rw [hs1_5]; rfl) (by decide) ?_
              refine lv_aload_n hx hb d_Model_owes_90 rfl (lv_at hl 0 rfl) ?_
              refine lv_bipush (v := (nI 61)) hx hb d_Model_owes_91 (by decide) ?_
              obtain ⟨h93, hv, hm⟩ := zbd hm
              obtain ⟨hq, hv⟩ := zcv_at hv
              refine z_cv hI (z_runV (As := [.int (nI 61)]) (rest := []) X hI hl.1 (c_Model_ranBody l G K u.1 (nI 61) u.2.2.2 _ hv) C_Model_267 rfl hq (Nat.le_of_ble_eq_true rfl) ⟨by simp only [zR]; omega, by simp only [zR]; omega, Nat.zero_le _, Nat.zero_le _⟩ rfl d_Model_owes_93) (fun H locs hI => ?_)
              refine lv_aload_n hx hb d_Model_owes_96 rfl (lv_at hl 0 rfl) ?_
              refine lv_iconst (v := (nI 5)) hx hb d_Model_owes_97 (by decide) ?_
              obtain ⟨v98, hv, hm⟩ := zbd hm
              refine z_ci hI (z_runS (As := [.int (nI 5)]) (rest := [.ref (G.1 u.1)]) X hI hl.1 (c_Model_above l G K (nI 5) h93 _ hv) C_Model_131 rfl (Nat.le_of_ble_eq_true rfl) ⟨by simp only [zR]; omega, by simp only [zR]; omega, Nat.zero_le _, Nat.zero_le _⟩ rfl d_Model_owes_98) (fun H locs hI => ?_)
              refine lv_iload_n hx hb d_Model_owes_101 rfl (lv_at hl 2 rfl) ?_
              refine lv_iconst (v := (nI 1)) hx hb d_Model_owes_102 (by decide) ?_
              refine lv_iadd hx hb d_Model_owes_103 ?_
              obtain ⟨v104, h104, hv, hm⟩ := zb2_at hm
              obtain ⟨hq, hv⟩ := zcv_at hv
              refine z_ci hI (z_runV (As := [.int v98, .int (u.2.2.1 + (nI 1))]) (rest := []) X hI hl.1 (hkk _ _ _ hv) C_Model_279 rfl hq (Nat.le_of_ble_eq_true rfl) ⟨by simp only [zR]; omega, by simp only [zR]; omega, Nat.zero_le _, Nat.zero_le _⟩ rfl d_Model_owes_104) (fun H locs hI => ?_)
              obtain ⟨rfl, rfl⟩ := zs2 hm
              exact z_iret X hI d_Model_owes_107
            · replace hm := zif_f hs1_5 hm
              by_cases hs1_6 : u.2.1 = (nI 6)
              · replace hm := zif_t hs1_6 hm
                refine lv_tableIn (off := 107) (tgt := 108) hx hb d_Model_owes_1 (by rw [hs1_6]; decide) (by rw [hs1_6]; decide) (by rw [hs1_6]; rfl) (by decide) ?_
                refine lv_aload_n hx hb d_Model_owes_108 rfl (lv_at hl 0 rfl) ?_
                refine lv_bipush (v := (nI 70)) hx hb d_Model_owes_109 (by decide) ?_
                obtain ⟨h111, hv, hm⟩ := zbd hm
                obtain ⟨hq, hv⟩ := zcv_at hv
                refine z_cv hI (z_runV (As := [.int (nI 70)]) (rest := []) X hI hl.1 (c_Model_ranBody l G K u.1 (nI 70) u.2.2.2 _ hv) C_Model_267 rfl hq (Nat.le_of_ble_eq_true rfl) ⟨by simp only [zR]; omega, by simp only [zR]; omega, Nat.zero_le _, Nat.zero_le _⟩ rfl d_Model_owes_111) (fun H locs hI => ?_)
                refine lv_aload_n hx hb d_Model_owes_114 rfl (lv_at hl 0 rfl) ?_
                refine lv_bipush (v := (nI 6)) hx hb d_Model_owes_115 (by decide) ?_
                obtain ⟨v117, hv, hm⟩ := zbd hm
                refine z_ci hI (z_runS (As := [.int (nI 6)]) (rest := [.ref (G.1 u.1)]) X hI hl.1 (c_Model_above l G K (nI 6) h111 _ hv) C_Model_131 rfl (Nat.le_of_ble_eq_true rfl) ⟨by simp only [zR]; omega, by simp only [zR]; omega, Nat.zero_le _, Nat.zero_le _⟩ rfl d_Model_owes_117) (fun H locs hI => ?_)
                refine lv_iload_n hx hb d_Model_owes_120 rfl (lv_at hl 2 rfl) ?_
                obtain ⟨v121, h121, hv, hm⟩ := zb2_at hm
                obtain ⟨hq, hv⟩ := zcv_at hv
                refine z_ci hI (z_runV (As := [.int v117, .int u.2.2.1]) (rest := []) X hI hl.1 (hkk _ _ _ hv) C_Model_279 rfl hq (Nat.le_of_ble_eq_true rfl) ⟨by simp only [zR]; omega, by simp only [zR]; omega, Nat.zero_le _, Nat.zero_le _⟩ rfl d_Model_owes_121) (fun H locs hI => ?_)
                refine lv_ineg hx hb d_Model_owes_124 ?_
                obtain ⟨rfl, rfl⟩ := zs2 hm
                exact z_iret X hI d_Model_owes_125
              · replace hm := zif_f hs1_6 hm
                have he0 : (u.2.1).toInt ≠ 0 := fun q => hs1_0 (Int32.toInt_inj.mp (q.trans (by decide)))
                have he1 : (u.2.1).toInt ≠ 1 := fun q => hs1_1 (Int32.toInt_inj.mp (q.trans (by decide)))
                have he2 : (u.2.1).toInt ≠ 2 := fun q => hs1_2 (Int32.toInt_inj.mp (q.trans (by decide)))
                have he3 : (u.2.1).toInt ≠ 3 := fun q => hs1_3 (Int32.toInt_inj.mp (q.trans (by decide)))
                have he4 : (u.2.1).toInt ≠ 4 := fun q => hs1_4 (Int32.toInt_inj.mp (q.trans (by decide)))
                have he5 : (u.2.1).toInt ≠ 5 := fun q => hs1_5 (Int32.toInt_inj.mp (q.trans (by decide)))
                have he6 : (u.2.1).toInt ≠ 6 := fun q => hs1_6 (Int32.toInt_inj.mp (q.trans (by decide)))
                refine lv_tableOut (tgt := 126) hx hb d_Model_owes_1 (by omega) (by decide) ?_
                refine lv_aload_n hx hb d_Model_owes_126 rfl (lv_at hl 0 rfl) ?_
                refine lv_iload_n hx hb d_Model_owes_127 rfl (lv_at hl 1 rfl) ?_
                obtain ⟨v128, hv, hm⟩ := zbd hm
                refine z_ci hI (z_runS (As := [.int u.2.1]) (rest := [.ref (G.1 u.1)]) X hI hl.1 (c_Model_above l G K u.2.1 u.2.2.2 _ hv) C_Model_131 rfl (Nat.le_of_ble_eq_true rfl) ⟨by simp only [zR]; omega, by simp only [zR]; omega, Nat.zero_le _, Nat.zero_le _⟩ rfl d_Model_owes_128) (fun H locs hI => ?_)
                refine lv_iload_n hx hb d_Model_owes_131 rfl (lv_at hl 2 rfl) ?_
                obtain ⟨v132, h132, hv, hm⟩ := zb2_at hm
                obtain ⟨hq, hv⟩ := zcv_at hv
                refine z_ci hI (z_runV (As := [.int v128, .int u.2.2.1]) (rest := []) X hI hl.1 (hkk _ _ _ hv) C_Model_279 rfl hq (Nat.le_of_ble_eq_true rfl) ⟨by simp only [zR]; omega, by simp only [zR]; omega, Nat.zero_le _, Nat.zero_le _⟩ rfl d_Model_owes_132) (fun H locs hI => ?_)
                obtain ⟨rfl, rfl⟩ := zs2 hm
                exact z_iret X hI d_Model_owes_135
set_option maxHeartbeats 4000000 in
set_option maxRecDepth 100000 in
theorem cz_Model_owes (l : Launch) (G : zG) (K : Nat) : ∀ (n : Nat) (w : Nat × Int32 × Int32 × zH) (r : Int32) (h' : zH), zloop g_Model_owes_0 n w = some (r, h') → zMi l G K y_Model_owes prog_9_method_64_code 4 (n + 42) [.ref (G.1 w.1), .int w.2.1, .int w.2.2.1] w.2.2.2 r h' := by
  intro n
  induction n with
  | zero => intro w r h' hm; cases hm
  | succ n ih =>
    intro w r h' hm
    have hm : g_Model_owes_0 (zloop g_Model_owes_0 n) w = some (r, h') := zls hm
    have E : n + 1 + 42 = n + 43 := by omega
    rw [E]
    exact zMet (by decide +kernel) (Nat.le_of_ble_eq_true rfl) (fun p e s m below meth c ls X hI hl => r_Model_owes_0 (n0 := n) X (zloop g_Model_owes_0 n) ih w hm hI hl)
theorem c_Model_owes (l : Launch) (G : zG) (K : Nat) (n : Nat) (a0 : Nat) (x1 : Int32) (x2 : Int32) (h : zH) (r : Int32) (h' : zH) (hm : m_Model_owes n a0 x1 x2 h = some (r, h')) : zMi l G K y_Model_owes prog_9_method_64_code 4 (n + 42) [.ref (G.1 a0), .int x1, .int x2] h r h' := cz_Model_owes l G K n (a0, x1, x2, h) r h' hm
