-- walk of AllHome.feed
theorem d_Home_feed_0 : decode prog_1_method_2_code 0 = .ok (.iload_n 1, 1) := by decide +kernel
theorem d_Home_feed_1 : decode prog_1_method_2_code 1 = .ok (.iconst 1, 1) := by decide +kernel
theorem d_Home_feed_2 : decode prog_1_method_2_code 2 = .ok (.if_icmp .lt 8, 3) := by decide +kernel
theorem d_Home_feed_5 : decode prog_1_method_2_code 5 = .ok (.iload_n 1, 1) := by decide +kernel
theorem d_Home_feed_6 : decode prog_1_method_2_code 6 = .ok (.iconst 4, 1) := by decide +kernel
theorem d_Home_feed_7 : decode prog_1_method_2_code 7 = .ok (.if_icmp .le 5, 3) := by decide +kernel
theorem d_Home_feed_10 : decode prog_1_method_2_code 10 = .ok (.iconst (-1), 1) := by decide +kernel
theorem d_Home_feed_11 : decode prog_1_method_2_code 11 = .ok (.ireturn, 1) := by decide +kernel
theorem d_Home_feed_12 : decode prog_1_method_2_code 12 = .ok (.aload_n 0, 1) := by decide +kernel
theorem d_Home_feed_13 : decode prog_1_method_2_code 13 = .ok (.getfield 59, 3) := by decide +kernel
theorem d_Home_feed_16 : decode prog_1_method_2_code 16 = .ok (.bipush 60, 2) := by decide +kernel
theorem d_Home_feed_18 : decode prog_1_method_2_code 18 = .ok (.iload_n 1, 1) := by decide +kernel
theorem d_Home_feed_19 : decode prog_1_method_2_code 19 = .ok (.isub, 1) := by decide +kernel
theorem d_Home_feed_20 : decode prog_1_method_2_code 20 = .ok (.if_icmp .le 6, 3) := by decide +kernel
theorem d_Home_feed_23 : decode prog_1_method_2_code 23 = .ok (.bipush (-3), 2) := by decide +kernel
theorem d_Home_feed_25 : decode prog_1_method_2_code 25 = .ok (.ireturn, 1) := by decide +kernel
theorem d_Home_feed_26 : decode prog_1_method_2_code 26 = .ok (.iconst 0, 1) := by decide +kernel
theorem d_Home_feed_27 : decode prog_1_method_2_code 27 = .ok (.istore_n 3, 1) := by decide +kernel
theorem d_Home_feed_28 : decode prog_1_method_2_code 28 = .ok (.iload_n 3, 1) := by decide +kernel
theorem d_Home_feed_29 : decode prog_1_method_2_code 29 = .ok (.iload_n 1, 1) := by decide +kernel
theorem d_Home_feed_30 : decode prog_1_method_2_code 30 = .ok (.if_icmp .ge 30, 3) := by decide +kernel
theorem d_Home_feed_33 : decode prog_1_method_2_code 33 = .ok (.aload_n 0, 1) := by decide +kernel
theorem d_Home_feed_34 : decode prog_1_method_2_code 34 = .ok (.getfield 9, 3) := by decide +kernel
theorem d_Home_feed_37 : decode prog_1_method_2_code 37 = .ok (.aload_n 0, 1) := by decide +kernel
theorem d_Home_feed_38 : decode prog_1_method_2_code 38 = .ok (.getfield 59, 3) := by decide +kernel
theorem d_Home_feed_41 : decode prog_1_method_2_code 41 = .ok (.iload_n 3, 1) := by decide +kernel
theorem d_Home_feed_42 : decode prog_1_method_2_code 42 = .ok (.iadd, 1) := by decide +kernel
theorem d_Home_feed_43 : decode prog_1_method_2_code 43 = .ok (.iload_n 2, 1) := by decide +kernel
theorem d_Home_feed_44 : decode prog_1_method_2_code 44 = .ok (.bipush 8, 2) := by decide +kernel
theorem d_Home_feed_46 : decode prog_1_method_2_code 46 = .ok (.iload_n 3, 1) := by decide +kernel
theorem d_Home_feed_47 : decode prog_1_method_2_code 47 = .ok (.imul, 1) := by decide +kernel
theorem d_Home_feed_48 : decode prog_1_method_2_code 48 = .ok (.ishr, 1) := by decide +kernel
theorem d_Home_feed_49 : decode prog_1_method_2_code 49 = .ok (.sipush 255, 3) := by decide +kernel
theorem d_Home_feed_52 : decode prog_1_method_2_code 52 = .ok (.iand, 1) := by decide +kernel
theorem d_Home_feed_53 : decode prog_1_method_2_code 53 = .ok (.iastore, 1) := by decide +kernel
theorem d_Home_feed_54 : decode prog_1_method_2_code 54 = .ok (.iinc 3 1, 3) := by decide +kernel
theorem d_Home_feed_57 : decode prog_1_method_2_code 57 = .ok (.goto (-29), 3) := by decide +kernel
theorem d_Home_feed_60 : decode prog_1_method_2_code 60 = .ok (.aload_n 0, 1) := by decide +kernel
theorem d_Home_feed_61 : decode prog_1_method_2_code 61 = .ok (.dup, 1) := by decide +kernel
theorem d_Home_feed_62 : decode prog_1_method_2_code 62 = .ok (.getfield 59, 3) := by decide +kernel
theorem d_Home_feed_65 : decode prog_1_method_2_code 65 = .ok (.iload_n 1, 1) := by decide +kernel
theorem d_Home_feed_66 : decode prog_1_method_2_code 66 = .ok (.iadd, 1) := by decide +kernel
theorem d_Home_feed_67 : decode prog_1_method_2_code 67 = .ok (.putfield 59, 3) := by decide +kernel
theorem d_Home_feed_70 : decode prog_1_method_2_code 70 = .ok (.aload_n 0, 1) := by decide +kernel
theorem d_Home_feed_71 : decode prog_1_method_2_code 71 = .ok (.getfield 59, 3) := by decide +kernel
theorem d_Home_feed_74 : decode prog_1_method_2_code 74 = .ok (.ireturn, 1) := by decide +kernel
set_option maxHeartbeats 4000000 in
set_option maxRecDepth 100000 in
theorem r_Home_feed_28_b {p : Program} {l : Launch} {e : Env} {s : State} {m : MethodId} {args : Array Value} {below : List Frame} {meth : Method} {c : Code} {G : zG} {K : Nat} (X : zX p s m args meth c "AllHome" prog_1_method_2_code 4 (some .int) G (zA G K)) {r : Int32} {h' : zH} (a0 : Nat) (x1 : Int32) (x2 : Int32) (k28 : (Int32 × zH) → Option (Int32 × zH)) (hk28 : ∀ (w : Int32 × zH), k28 w = some (r, h') → ∀ (H : Heap) (locs : List Loc) (ls : Array Slot), zI G K s (zA G K) H locs w.2 → lv_has ls 4 [(0, .ref (G.1 a0)), (1, .int x1), (2, .int x2), (3, .int w.1)] → W p l e (zR 0) s m args below meth c H locs 0 0 (MQ below (zQi G K r h') args s 0 0 (zA G K)) (F0 m 28 ls [])) (u : Int32 × zH) (hm : g_Home_feed_28 a0 x1 x2 k28 u = some (r, h')) {H : Heap} {locs : List Loc} {ls : Array Slot} (hI : zI G K s (zA G K) H locs u.2) (hl : lv_has ls 4 [(0, .ref (G.1 a0)), (1, .int x1), (2, .int x2), (3, .int u.1)]) : W p l e (zR 0) s m args below meth c H locs 0 0 (MQ below (zQi G K r h') args s 0 0 (zA G K)) (F0 m 28 ls []) := by
  obtain ⟨hx, hb, hml, hown, hts, hr, hlocks, hK, hST, hNs⟩ := id X
  unfold g_Home_feed_28 at hm
  refine lv_iload_n hx hb d_Home_feed_28 rfl (lv_at hl 3 rfl) ?_
  refine lv_iload_n hx hb d_Home_feed_29 rfl (lv_at hl 1 rfl) ?_
  refine lv_icmp_ge (tgt := 60) hx hb d_Home_feed_30 (by decide) (fun hc30 => ?_) (fun hc30 => ?_)
  · replace hm := zif_t hc30 hm
    refine lv_aload_n hx hb d_Home_feed_60 rfl (lv_at hl 0 rfl) ?_
    refine lv_dup hx hb d_Home_feed_61 rfl ?_
    obtain ⟨v62, hv, hm⟩ := zbd hm
    refine z_getI X hI F_Home_59 hv d_Home_feed_62 ?_
    refine lv_iload_n hx hb d_Home_feed_65 rfl (lv_at hl 1 rfl) ?_
    refine lv_iadd hx hb d_Home_feed_66 ?_
    obtain ⟨h67, hv, hm⟩ := zbd hm
    refine z_putI X hI P_Home_59 hv d_Home_feed_67 (fun H locs hI => ?_)
    refine lv_aload_n hx hb d_Home_feed_70 rfl (lv_at hl 0 rfl) ?_
    obtain ⟨v71, hv, hm⟩ := zbd hm
    refine z_getI X hI F_Home_59 hv d_Home_feed_71 ?_
    obtain ⟨rfl, rfl⟩ := zs2 hm
    exact z_iret X hI d_Home_feed_74
  · replace hm := zif_f hc30 hm
    refine lv_aload_n hx hb d_Home_feed_33 rfl (lv_at hl 0 rfl) ?_
    obtain ⟨v34, hv, hm⟩ := zbd hm
    refine z_getR X hI F_Home_9 hv d_Home_feed_34 ?_
    refine lv_aload_n hx hb d_Home_feed_37 rfl (lv_at hl 0 rfl) ?_
    obtain ⟨v38, hv, hm⟩ := zbd hm
    refine z_getI X hI F_Home_59 hv d_Home_feed_38 ?_
    refine lv_iload_n hx hb d_Home_feed_41 rfl (lv_at hl 3 rfl) ?_
    refine lv_iadd hx hb d_Home_feed_42 ?_
    refine lv_iload_n hx hb d_Home_feed_43 rfl (lv_at hl 2 rfl) ?_
    refine lv_bipush (v := (nI 8)) hx hb d_Home_feed_44 (by decide) ?_
    refine lv_iload_n hx hb d_Home_feed_46 rfl (lv_at hl 3 rfl) ?_
    refine lv_imul hx hb d_Home_feed_47 ?_
    refine lv_ishr hx hb d_Home_feed_48 ?_
    refine lv_sipush (v := (nI 255)) hx hb d_Home_feed_49 (by decide) ?_
    refine lv_iand hx hb d_Home_feed_52 ?_
    obtain ⟨h53, hv, hm⟩ := zbd hm
    refine z_iast X hI hv d_Home_feed_53 (fun H locs hI => ?_)
    refine lv_iinc (v := (u.1 + (nI 1))) (lv' := [(3, .int (u.1 + (nI 1))), (0, .ref (G.1 a0)), (1, .int x1), (2, .int x2)]) hx hb d_Home_feed_54 hl (k := 3) rfl (congrArg (fun z => u.1 + z) (show Int32.ofInt (1) = (nI 1) by decide)) (by decide) rfl (fun ls hl => ?_)
    refine lv_goto (tgt := 28) hx hb d_Home_feed_57 (by decide) ?_
    obtain ⟨g0, e0⟩ : ∃ z, z = (u.1 + (nI 1)) := ⟨_, rfl⟩
    rw [← e0] at hm hl
    exact hk28 (g0, h53) hm _ _ _ hI (lv_sub hl [1, 2, 3, 0] rfl)
theorem r_Home_feed_28 {p : Program} {l : Launch} {e : Env} {s : State} {m : MethodId} {args : Array Value} {below : List Frame} {meth : Method} {c : Code} {G : zG} {K : Nat} (X : zX p s m args meth c "AllHome" prog_1_method_2_code 4 (some .int) G (zA G K)) {r : Int32} {h' : zH} (a0 : Nat) (x1 : Int32) (x2 : Int32) : ∀ (n : Nat) (w : Int32 × zH), zloop (g_Home_feed_28 a0 x1 x2) n w = some (r, h') → ∀ (H : Heap) (locs : List Loc) (ls : Array Slot), zI G K s (zA G K) H locs w.2 → lv_has ls 4 [(0, .ref (G.1 a0)), (1, .int x1), (2, .int x2), (3, .int w.1)] → W p l e (zR 0) s m args below meth c H locs 0 0 (MQ below (zQi G K r h') args s 0 0 (zA G K)) (F0 m 28 ls []) := by
  intro n
  induction n with
  | zero => intro w hm; cases hm
  | succ n ih => intro w hm H locs ls hI hl; exact r_Home_feed_28_b X a0 x1 x2 (zloop (g_Home_feed_28 a0 x1 x2) n) ih w (zls hm) hI hl
set_option maxHeartbeats 4000000 in
set_option maxRecDepth 100000 in
theorem r_Home_feed_0 {p : Program} {l : Launch} {e : Env} {s : State} {m : MethodId} {args : Array Value} {below : List Frame} {meth : Method} {c : Code} {G : zG} {K : Nat} (X : zX p s m args meth c "AllHome" prog_1_method_2_code 4 (some .int) G (zA G K)) {r : Int32} {h' : zH} (a0 : Nat) (x1 : Int32) (x2 : Int32) (h : zH) (hm : m_Home_feed a0 x1 x2 h = some (r, h')) {H : Heap} {locs : List Loc} {ls : Array Slot} (hI : zI G K s (zA G K) H locs h) (hl : lv_has ls 4 [(0, .ref (G.1 a0)), (1, .int x1), (2, .int x2)]) : W p l e (zR 0) s m args below meth c H locs 0 0 (MQ below (zQi G K r h') args s 0 0 (zA G K)) (F0 m 0 ls []) := by
  obtain ⟨hx, hb, hml, hown, hts, hr, hlocks, hK, hST, hNs⟩ := id X
  unfold m_Home_feed at hm
  refine lv_iload_n hx hb d_Home_feed_0 rfl (lv_at hl 1 rfl) ?_
  refine lv_iconst (v := (nI 1)) hx hb d_Home_feed_1 (by decide) ?_
  refine lv_icmp_lt (tgt := 10) hx hb d_Home_feed_2 (by decide) (fun hc2 => ?_) (fun hc2 => ?_)
  · replace hm := zif_t hc2 hm
    refine lv_iconst (v := (-1 : Int32)) hx hb d_Home_feed_10 (by decide) ?_
    obtain ⟨rfl, rfl⟩ := zs2 hm
    exact z_iret X hI d_Home_feed_11
  · replace hm := zif_f hc2 hm
    refine lv_iload_n hx hb d_Home_feed_5 rfl (lv_at hl 1 rfl) ?_
    refine lv_iconst (v := (nI 4)) hx hb d_Home_feed_6 (by decide) ?_
    refine lv_icmp_le (tgt := 12) hx hb d_Home_feed_7 (by decide) (fun hc7 => ?_) (fun hc7 => ?_)
    · replace hm := zif_t hc7 hm
      refine lv_aload_n hx hb d_Home_feed_12 rfl (lv_at hl 0 rfl) ?_
      obtain ⟨v13, hv, hm⟩ := zbd hm
      refine z_getI X hI F_Home_59 hv d_Home_feed_13 ?_
      refine lv_bipush (v := (nI 60)) hx hb d_Home_feed_16 (by decide) ?_
      refine lv_iload_n hx hb d_Home_feed_18 rfl (lv_at hl 1 rfl) ?_
      refine lv_isub hx hb d_Home_feed_19 ?_
      refine lv_icmp_le (tgt := 26) hx hb d_Home_feed_20 (by decide) (fun hc20 => ?_) (fun hc20 => ?_)
      · replace hm := zif_t hc20 hm
        refine lv_iconst (v := (nI 0)) hx hb d_Home_feed_26 (by decide) ?_
        refine lv_istore_n (lv' := [(3, .int (nI 0)), (0, .ref (G.1 a0)), (1, .int x1), (2, .int x2)]) hx hb d_Home_feed_27 rfl hl (by decide) rfl (fun ls hl => ?_)
        exact r_Home_feed_28 X a0 x1 x2 zN ((nI 0), h) hm _ _ _ hI (lv_sub hl [1, 2, 3, 0] rfl)
      · replace hm := zif_f hc20 hm
        refine lv_bipush (v := (-3 : Int32)) hx hb d_Home_feed_23 (by decide) ?_
        obtain ⟨rfl, rfl⟩ := zs2 hm
        exact z_iret X hI d_Home_feed_25
    · replace hm := zif_f hc7 hm
      refine lv_iconst (v := (-1 : Int32)) hx hb d_Home_feed_10 (by decide) ?_
      obtain ⟨rfl, rfl⟩ := zs2 hm
      exact z_iret X hI d_Home_feed_11
set_option maxHeartbeats 4000000 in
set_option maxRecDepth 100000 in
theorem c_Home_feed (l : Launch) (G : zG) (K : Nat) (a0 : Nat) (x1 : Int32) (x2 : Int32) (h : zH) (r : Int32) (h' : zH) (hm : m_Home_feed a0 x1 x2 h = some (r, h')) : zMi l G K y_Home_feed prog_1_method_2_code 4 0 [.ref (G.1 a0), .int x1, .int x2] h r h' := zMet (by decide +kernel) (Nat.le_of_ble_eq_true rfl) (fun p e s m below meth c ls X hI hl => r_Home_feed_0 X a0 x1 x2 h hm hI hl)
-- walk of AllHome$Huts.size
theorem d_Huts_size_0 : decode prog_3_method_2_code 0 = .ok (.aload_n 0, 1) := by decide +kernel
theorem d_Huts_size_1 : decode prog_3_method_2_code 1 = .ok (.getfield 23, 3) := by decide +kernel
theorem d_Huts_size_4 : decode prog_3_method_2_code 4 = .ok (.ireturn, 1) := by decide +kernel
set_option maxHeartbeats 4000000 in
set_option maxRecDepth 100000 in
theorem r_Huts_size_0 {p : Program} {l : Launch} {e : Env} {s : State} {m : MethodId} {args : Array Value} {below : List Frame} {meth : Method} {c : Code} {G : zG} {K : Nat} (X : zX p s m args meth c "AllHome$Huts" prog_3_method_2_code 1 (some .int) G (zA G K)) {r : Int32} (a0 : Nat) (h : zH) (hm : m_Huts_size a0 h = some r) {H : Heap} {locs : List Loc} {ls : Array Slot} (hI : zI G K s (zA G K) H locs h) (hl : lv_has ls 1 [(0, .ref (G.1 a0))]) : W p l e (zR 0) s m args below meth c H locs 0 0 (MQ below (zQi G K r h) args s 0 0 (zA G K)) (F0 m 0 ls []) := by
  obtain ⟨hx, hb, hml, hown, hts, hr, hlocks, hK, hST, hNs⟩ := id X
  unfold m_Huts_size at hm
  refine lv_aload_n hx hb d_Huts_size_0 rfl (lv_at hl 0 rfl) ?_
  obtain ⟨v1, hv, hm⟩ := zbd hm
  refine z_getI X hI F_Huts_23 hv d_Huts_size_1 ?_
  obtain rfl := zs1 hm
  exact z_iret X hI d_Huts_size_4
set_option maxHeartbeats 4000000 in
set_option maxRecDepth 100000 in
theorem c_Huts_size (l : Launch) (G : zG) (K : Nat) (a0 : Nat) (h : zH) (r : Int32) (hm : m_Huts_size a0 h = some r) : zMi l G K y_Huts_size prog_3_method_2_code 1 0 [.ref (G.1 a0)] h r h := zMet (by decide +kernel) (Nat.le_of_ble_eq_true rfl) (fun p e s m below meth c ls X hI hl => r_Huts_size_0 X a0 h hm hI hl)
-- walk of AllHome$Huts.addWords
theorem d_Huts_addWords_0 : decode prog_3_method_8_code 0 = .ok (.iconst 0, 1) := by decide +kernel
theorem d_Huts_addWords_1 : decode prog_3_method_8_code 1 = .ok (.istore 4, 2) := by decide +kernel
theorem d_Huts_addWords_3 : decode prog_3_method_8_code 3 = .ok (.iload 4, 2) := by decide +kernel
theorem d_Huts_addWords_5 : decode prog_3_method_8_code 5 = .ok (.iload_n 3, 1) := by decide +kernel
theorem d_Huts_addWords_6 : decode prog_3_method_8_code 6 = .ok (.if_icmp .ge 34, 3) := by decide +kernel
theorem d_Huts_addWords_9 : decode prog_3_method_8_code 9 = .ok (.iload_n 1, 1) := by decide +kernel
theorem d_Huts_addWords_10 : decode prog_3_method_8_code 10 = .ok (.iload 4, 2) := by decide +kernel
theorem d_Huts_addWords_12 : decode prog_3_method_8_code 12 = .ok (.iadd, 1) := by decide +kernel
theorem d_Huts_addWords_13 : decode prog_3_method_8_code 13 = .ok (.sipush 270, 3) := by decide +kernel
theorem d_Huts_addWords_16 : decode prog_3_method_8_code 16 = .ok (.if_icmp .ge 24, 3) := by decide +kernel
theorem d_Huts_addWords_19 : decode prog_3_method_8_code 19 = .ok (.aload_n 0, 1) := by decide +kernel
theorem d_Huts_addWords_20 : decode prog_3_method_8_code 20 = .ok (.getfield 13, 3) := by decide +kernel
theorem d_Huts_addWords_23 : decode prog_3_method_8_code 23 = .ok (.aload_n 0, 1) := by decide +kernel
theorem d_Huts_addWords_24 : decode prog_3_method_8_code 24 = .ok (.getfield 23, 3) := by decide +kernel
theorem d_Huts_addWords_27 : decode prog_3_method_8_code 27 = .ok (.aaload, 1) := by decide +kernel
theorem d_Huts_addWords_28 : decode prog_3_method_8_code 28 = .ok (.iload_n 1, 1) := by decide +kernel
theorem d_Huts_addWords_29 : decode prog_3_method_8_code 29 = .ok (.iload 4, 2) := by decide +kernel
theorem d_Huts_addWords_31 : decode prog_3_method_8_code 31 = .ok (.iadd, 1) := by decide +kernel
theorem d_Huts_addWords_32 : decode prog_3_method_8_code 32 = .ok (.iload_n 2, 1) := by decide +kernel
theorem d_Huts_addWords_33 : decode prog_3_method_8_code 33 = .ok (.iastore, 1) := by decide +kernel
theorem d_Huts_addWords_34 : decode prog_3_method_8_code 34 = .ok (.iinc 4 1, 3) := by decide +kernel
theorem d_Huts_addWords_37 : decode prog_3_method_8_code 37 = .ok (.goto (-34), 3) := by decide +kernel
theorem d_Huts_addWords_40 : decode prog_3_method_8_code 40 = .ok (.iload_n 1, 1) := by decide +kernel
theorem d_Huts_addWords_41 : decode prog_3_method_8_code 41 = .ok (.iload_n 3, 1) := by decide +kernel
theorem d_Huts_addWords_42 : decode prog_3_method_8_code 42 = .ok (.iadd, 1) := by decide +kernel
theorem d_Huts_addWords_43 : decode prog_3_method_8_code 43 = .ok (.sipush 270, 3) := by decide +kernel
theorem d_Huts_addWords_46 : decode prog_3_method_8_code 46 = .ok (.invokestatic 35, 3) := by decide +kernel
theorem d_Huts_addWords_49 : decode prog_3_method_8_code 49 = .ok (.ireturn, 1) := by decide +kernel
set_option maxHeartbeats 4000000 in
set_option maxRecDepth 100000 in
theorem r_Huts_addWords_3_b {p : Program} {l : Launch} {e : Env} {s : State} {m : MethodId} {args : Array Value} {below : List Frame} {meth : Method} {c : Code} {G : zG} {K : Nat} (X : zX p s m args meth c "AllHome$Huts" prog_3_method_8_code 5 (some .int) G (zA G K)) {r : Int32} {h' : zH} (a0 : Nat) (x1 : Int32) (x2 : Int32) (x3 : Int32) (k3 : (Int32 × zH) → Option (Int32 × zH)) (hk3 : ∀ (w : Int32 × zH), k3 w = some (r, h') → ∀ (H : Heap) (locs : List Loc) (ls : Array Slot), zI G K s (zA G K) H locs w.2 → lv_has ls 5 [(0, .ref (G.1 a0)), (1, .int x1), (2, .int x2), (3, .int x3), (4, .int w.1)] → W p l e (zR 1) s m args below meth c H locs 0 0 (MQ below (zQi G K r h') args s 0 0 (zA G K)) (F0 m 3 ls [])) (u : Int32 × zH) (hm : g_Huts_addWords_3 a0 x1 x2 x3 k3 u = some (r, h')) {H : Heap} {locs : List Loc} {ls : Array Slot} (hI : zI G K s (zA G K) H locs u.2) (hl : lv_has ls 5 [(0, .ref (G.1 a0)), (1, .int x1), (2, .int x2), (3, .int x3), (4, .int u.1)]) : W p l e (zR 1) s m args below meth c H locs 0 0 (MQ below (zQi G K r h') args s 0 0 (zA G K)) (F0 m 3 ls []) := by
  obtain ⟨hx, hb, hml, hown, hts, hr, hlocks, hK, hST, hNs⟩ := id X
  unfold g_Huts_addWords_3 at hm
  refine lv_iload hx hb d_Huts_addWords_3 (lv_at hl 4 rfl) ?_
  refine lv_iload_n hx hb d_Huts_addWords_5 rfl (lv_at hl 3 rfl) ?_
  refine lv_icmp_ge (tgt := 40) hx hb d_Huts_addWords_6 (by decide) (fun hc6 => ?_) (fun hc6 => ?_)
  · replace hm := zif_t hc6 hm
    refine lv_iload_n hx hb d_Huts_addWords_40 rfl (lv_at hl 1 rfl) ?_
    refine lv_iload_n hx hb d_Huts_addWords_41 rfl (lv_at hl 3 rfl) ?_
    refine lv_iadd hx hb d_Huts_addWords_42 ?_
    refine lv_sipush (v := (nI 270)) hx hb d_Huts_addWords_43 (by decide) ?_
    refine va_mmin hx hb (hml.trans hl.1.symm) hown (hts _ kw234) (hts _ kw235) (hts _ kw9) (hts _ kw236) (Nat.le_of_ble_eq_true rfl) (Nat.le_of_ble_eq_true rfl) (Nat.zero_le _) (Nat.zero_le _) d_Huts_addWords_46 ?_
    obtain ⟨rfl, rfl⟩ := zs2 hm
    exact z_iret X hI d_Huts_addWords_49
  · replace hm := zif_f hc6 hm
    refine lv_iload_n hx hb d_Huts_addWords_9 rfl (lv_at hl 1 rfl) ?_
    refine lv_iload hx hb d_Huts_addWords_10 (lv_at hl 4 rfl) ?_
    refine lv_iadd hx hb d_Huts_addWords_12 ?_
    refine lv_sipush (v := (nI 270)) hx hb d_Huts_addWords_13 (by decide) ?_
    refine lv_icmp_ge (tgt := 40) hx hb d_Huts_addWords_16 (by decide) (fun hc16 => ?_) (fun hc16 => ?_)
    · replace hm := zif_t hc16 hm
      refine lv_iload_n hx hb d_Huts_addWords_40 rfl (lv_at hl 1 rfl) ?_
      refine lv_iload_n hx hb d_Huts_addWords_41 rfl (lv_at hl 3 rfl) ?_
      refine lv_iadd hx hb d_Huts_addWords_42 ?_
      refine lv_sipush (v := (nI 270)) hx hb d_Huts_addWords_43 (by decide) ?_
      refine va_mmin hx hb (hml.trans hl.1.symm) hown (hts _ kw234) (hts _ kw235) (hts _ kw9) (hts _ kw236) (Nat.le_of_ble_eq_true rfl) (Nat.le_of_ble_eq_true rfl) (Nat.zero_le _) (Nat.zero_le _) d_Huts_addWords_46 ?_
      obtain ⟨rfl, rfl⟩ := zs2 hm
      exact z_iret X hI d_Huts_addWords_49
    · replace hm := zif_f hc16 hm
      refine lv_aload_n hx hb d_Huts_addWords_19 rfl (lv_at hl 0 rfl) ?_
      obtain ⟨v20, hv, hm⟩ := zbd hm
      refine z_getR X hI F_Huts_13 hv d_Huts_addWords_20 ?_
      refine lv_aload_n hx hb d_Huts_addWords_23 rfl (lv_at hl 0 rfl) ?_
      obtain ⟨v24, hv, hm⟩ := zbd hm
      refine z_getI X hI F_Huts_23 hv d_Huts_addWords_24 ?_
      obtain ⟨v27, hv, hm⟩ := zbd hm
      refine z_aald X hI 5 (.array .int) rfl rfl hv d_Huts_addWords_27 ?_
      refine lv_iload_n hx hb d_Huts_addWords_28 rfl (lv_at hl 1 rfl) ?_
      refine lv_iload hx hb d_Huts_addWords_29 (lv_at hl 4 rfl) ?_
      refine lv_iadd hx hb d_Huts_addWords_31 ?_
      refine lv_iload_n hx hb d_Huts_addWords_32 rfl (lv_at hl 2 rfl) ?_
      obtain ⟨h33, hv, hm⟩ := zbd hm
      refine z_iast X hI hv d_Huts_addWords_33 (fun H locs hI => ?_)
      refine lv_iinc (v := (u.1 + (nI 1))) (lv' := [(4, .int (u.1 + (nI 1))), (0, .ref (G.1 a0)), (1, .int x1), (2, .int x2), (3, .int x3)]) hx hb d_Huts_addWords_34 hl (k := 4) rfl (congrArg (fun z => u.1 + z) (show Int32.ofInt (1) = (nI 1) by decide)) (by decide) rfl (fun ls hl => ?_)
      refine lv_goto (tgt := 3) hx hb d_Huts_addWords_37 (by decide) ?_
      obtain ⟨g0, e0⟩ : ∃ z, z = (u.1 + (nI 1)) := ⟨_, rfl⟩
      rw [← e0] at hm hl
      exact hk3 (g0, h33) hm _ _ _ hI (lv_sub hl [1, 2, 3, 4, 0] rfl)
theorem r_Huts_addWords_3 {p : Program} {l : Launch} {e : Env} {s : State} {m : MethodId} {args : Array Value} {below : List Frame} {meth : Method} {c : Code} {G : zG} {K : Nat} (X : zX p s m args meth c "AllHome$Huts" prog_3_method_8_code 5 (some .int) G (zA G K)) {r : Int32} {h' : zH} (a0 : Nat) (x1 : Int32) (x2 : Int32) (x3 : Int32) : ∀ (n : Nat) (w : Int32 × zH), zloop (g_Huts_addWords_3 a0 x1 x2 x3) n w = some (r, h') → ∀ (H : Heap) (locs : List Loc) (ls : Array Slot), zI G K s (zA G K) H locs w.2 → lv_has ls 5 [(0, .ref (G.1 a0)), (1, .int x1), (2, .int x2), (3, .int x3), (4, .int w.1)] → W p l e (zR 1) s m args below meth c H locs 0 0 (MQ below (zQi G K r h') args s 0 0 (zA G K)) (F0 m 3 ls []) := by
  intro n
  induction n with
  | zero => intro w hm; cases hm
  | succ n ih => intro w hm H locs ls hI hl; exact r_Huts_addWords_3_b X a0 x1 x2 x3 (zloop (g_Huts_addWords_3 a0 x1 x2 x3) n) ih w (zls hm) hI hl
set_option maxHeartbeats 4000000 in
set_option maxRecDepth 100000 in
theorem r_Huts_addWords_0 {p : Program} {l : Launch} {e : Env} {s : State} {m : MethodId} {args : Array Value} {below : List Frame} {meth : Method} {c : Code} {G : zG} {K : Nat} (X : zX p s m args meth c "AllHome$Huts" prog_3_method_8_code 5 (some .int) G (zA G K)) {r : Int32} {h' : zH} (a0 : Nat) (x1 : Int32) (x2 : Int32) (x3 : Int32) (h : zH) (hm : m_Huts_addWords a0 x1 x2 x3 h = some (r, h')) {H : Heap} {locs : List Loc} {ls : Array Slot} (hI : zI G K s (zA G K) H locs h) (hl : lv_has ls 5 [(0, .ref (G.1 a0)), (1, .int x1), (2, .int x2), (3, .int x3)]) : W p l e (zR 1) s m args below meth c H locs 0 0 (MQ below (zQi G K r h') args s 0 0 (zA G K)) (F0 m 0 ls []) := by
  obtain ⟨hx, hb, hml, hown, hts, hr, hlocks, hK, hST, hNs⟩ := id X
  unfold m_Huts_addWords at hm
  refine lv_iconst (v := (nI 0)) hx hb d_Huts_addWords_0 (by decide) ?_
  refine lv_istore (lv' := [(4, .int (nI 0)), (0, .ref (G.1 a0)), (1, .int x1), (2, .int x2), (3, .int x3)]) hx hb d_Huts_addWords_1 hl (by decide) rfl (fun ls hl => ?_)
  exact r_Huts_addWords_3 X a0 x1 x2 x3 zN ((nI 0), h) hm _ _ _ hI (lv_sub hl [1, 2, 3, 4, 0] rfl)
set_option maxHeartbeats 4000000 in
set_option maxRecDepth 100000 in
theorem c_Huts_addWords (l : Launch) (G : zG) (K : Nat) (a0 : Nat) (x1 : Int32) (x2 : Int32) (x3 : Int32) (h : zH) (r : Int32) (h' : zH) (hm : m_Huts_addWords a0 x1 x2 x3 h = some (r, h')) : zMi l G K y_Huts_addWords prog_3_method_8_code 5 1 [.ref (G.1 a0), .int x1, .int x2, .int x3] h r h' := zMet (by decide +kernel) (Nat.le_of_ble_eq_true rfl) (fun p e s m below meth c ls X hI hl => r_Huts_addWords_0 X a0 x1 x2 x3 h hm hI hl)
-- walk of AllHome$Huts.read
theorem d_Huts_read_0 : decode prog_3_method_7_code 0 = .ok (.aload_n 0, 1) := by decide +kernel
theorem d_Huts_read_1 : decode prog_3_method_7_code 1 = .ok (.getfield 23, 3) := by decide +kernel
theorem d_Huts_read_4 : decode prog_3_method_7_code 4 = .ok (.bipush 6, 2) := by decide +kernel
theorem d_Huts_read_6 : decode prog_3_method_7_code 6 = .ok (.if_icmp .ge 19, 3) := by decide +kernel
theorem d_Huts_read_9 : decode prog_3_method_7_code 9 = .ok (.iload_n 2, 1) := by decide +kernel
theorem d_Huts_read_10 : decode prog_3_method_7_code 10 = .ok (.ifCond .lt 15, 3) := by decide +kernel
theorem d_Huts_read_13 : decode prog_3_method_7_code 13 = .ok (.iload_n 2, 1) := by decide +kernel
theorem d_Huts_read_14 : decode prog_3_method_7_code 14 = .ok (.bipush 60, 2) := by decide +kernel
theorem d_Huts_read_16 : decode prog_3_method_7_code 16 = .ok (.if_icmp .gt 9, 3) := by decide +kernel
theorem d_Huts_read_19 : decode prog_3_method_7_code 19 = .ok (.iload_n 2, 1) := by decide +kernel
theorem d_Huts_read_20 : decode prog_3_method_7_code 20 = .ok (.aload_n 1, 1) := by decide +kernel
theorem d_Huts_read_21 : decode prog_3_method_7_code 21 = .ok (.arraylength, 1) := by decide +kernel
theorem d_Huts_read_22 : decode prog_3_method_7_code 22 = .ok (.if_icmp .le 5, 3) := by decide +kernel
theorem d_Huts_read_25 : decode prog_3_method_7_code 25 = .ok (.iconst 0, 1) := by decide +kernel
theorem d_Huts_read_26 : decode prog_3_method_7_code 26 = .ok (.ireturn, 1) := by decide +kernel
theorem d_Huts_read_27 : decode prog_3_method_7_code 27 = .ok (.iconst 0, 1) := by decide +kernel
theorem d_Huts_read_28 : decode prog_3_method_7_code 28 = .ok (.istore_n 3, 1) := by decide +kernel
theorem d_Huts_read_29 : decode prog_3_method_7_code 29 = .ok (.iconst 0, 1) := by decide +kernel
theorem d_Huts_read_30 : decode prog_3_method_7_code 30 = .ok (.istore 4, 2) := by decide +kernel
theorem d_Huts_read_32 : decode prog_3_method_7_code 32 = .ok (.iconst 0, 1) := by decide +kernel
theorem d_Huts_read_33 : decode prog_3_method_7_code 33 = .ok (.istore 5, 2) := by decide +kernel
theorem d_Huts_read_35 : decode prog_3_method_7_code 35 = .ok (.iconst 0, 1) := by decide +kernel
theorem d_Huts_read_36 : decode prog_3_method_7_code 36 = .ok (.istore 6, 2) := by decide +kernel
theorem d_Huts_read_38 : decode prog_3_method_7_code 38 = .ok (.iload 6, 2) := by decide +kernel
theorem d_Huts_read_40 : decode prog_3_method_7_code 40 = .ok (.iload_n 2, 1) := by decide +kernel
theorem d_Huts_read_41 : decode prog_3_method_7_code 41 = .ok (.if_icmp .ge 133, 3) := by decide +kernel
theorem d_Huts_read_44 : decode prog_3_method_7_code 44 = .ok (.aload_n 1, 1) := by decide +kernel
theorem d_Huts_read_45 : decode prog_3_method_7_code 45 = .ok (.iload 6, 2) := by decide +kernel
theorem d_Huts_read_47 : decode prog_3_method_7_code 47 = .ok (.iaload, 1) := by decide +kernel
theorem d_Huts_read_48 : decode prog_3_method_7_code 48 = .ok (.istore 7, 2) := by decide +kernel
theorem d_Huts_read_50 : decode prog_3_method_7_code 50 = .ok (.iload 7, 2) := by decide +kernel
theorem d_Huts_read_52 : decode prog_3_method_7_code 52 = .ok (.bipush 97, 2) := by decide +kernel
theorem d_Huts_read_54 : decode prog_3_method_7_code 54 = .ok (.isub, 1) := by decide +kernel
theorem d_Huts_read_55 : decode prog_3_method_7_code 55 = .ok (.istore 8, 2) := by decide +kernel
theorem d_Huts_read_57 : decode prog_3_method_7_code 57 = .ok (.iload 8, 2) := by decide +kernel
theorem d_Huts_read_59 : decode prog_3_method_7_code 59 = .ok (.ifCond .lt 46, 3) := by decide +kernel
theorem d_Huts_read_62 : decode prog_3_method_7_code 62 = .ok (.iload 8, 2) := by decide +kernel
theorem d_Huts_read_64 : decode prog_3_method_7_code 64 = .ok (.bipush 6, 2) := by decide +kernel
theorem d_Huts_read_66 : decode prog_3_method_7_code 66 = .ok (.if_icmp .ge 39, 3) := by decide +kernel
theorem d_Huts_read_69 : decode prog_3_method_7_code 69 = .ok (.iload 8, 2) := by decide +kernel
theorem d_Huts_read_71 : decode prog_3_method_7_code 71 = .ok (.aload_n 0, 1) := by decide +kernel
theorem d_Huts_read_72 : decode prog_3_method_7_code 72 = .ok (.getfield 23, 3) := by decide +kernel
theorem d_Huts_read_75 : decode prog_3_method_7_code 75 = .ok (.if_icmp .eq 30, 3) := by decide +kernel
theorem d_Huts_read_78 : decode prog_3_method_7_code 78 = .ok (.aload_n 0, 1) := by decide +kernel
theorem d_Huts_read_79 : decode prog_3_method_7_code 79 = .ok (.iload 4, 2) := by decide +kernel
theorem d_Huts_read_81 : decode prog_3_method_7_code 81 = .ok (.iload 8, 2) := by decide +kernel
theorem d_Huts_read_83 : decode prog_3_method_7_code 83 = .ok (.iload 5, 2) := by decide +kernel
theorem d_Huts_read_85 : decode prog_3_method_7_code 85 = .ok (.ifCond .ne 7, 3) := by decide +kernel
theorem d_Huts_read_88 : decode prog_3_method_7_code 88 = .ok (.iconst 1, 1) := by decide +kernel
theorem d_Huts_read_89 : decode prog_3_method_7_code 89 = .ok (.goto 5, 3) := by decide +kernel
theorem d_Huts_read_92 : decode prog_3_method_7_code 92 = .ok (.iload 5, 2) := by decide +kernel
theorem d_Huts_read_94 : decode prog_3_method_7_code 94 = .ok (.invokevirtual 31, 3) := by decide +kernel
theorem d_Huts_read_97 : decode prog_3_method_7_code 97 = .ok (.istore 4, 2) := by decide +kernel
theorem d_Huts_read_99 : decode prog_3_method_7_code 99 = .ok (.iconst 0, 1) := by decide +kernel
theorem d_Huts_read_100 : decode prog_3_method_7_code 100 = .ok (.istore 5, 2) := by decide +kernel
theorem d_Huts_read_102 : decode prog_3_method_7_code 102 = .ok (.goto 66, 3) := by decide +kernel
theorem d_Huts_read_105 : decode prog_3_method_7_code 105 = .ok (.iload 7, 2) := by decide +kernel
theorem d_Huts_read_107 : decode prog_3_method_7_code 107 = .ok (.bipush 59, 2) := by decide +kernel
theorem d_Huts_read_109 : decode prog_3_method_7_code 109 = .ok (.if_icmp .ne 27, 3) := by decide +kernel
theorem d_Huts_read_112 : decode prog_3_method_7_code 112 = .ok (.iload 5, 2) := by decide +kernel
theorem d_Huts_read_114 : decode prog_3_method_7_code 114 = .ok (.ifCond .ne 22, 3) := by decide +kernel
theorem d_Huts_read_117 : decode prog_3_method_7_code 117 = .ok (.iinc 3 1, 3) := by decide +kernel
theorem d_Huts_read_120 : decode prog_3_method_7_code 120 = .ok (.aload_n 0, 1) := by decide +kernel
theorem d_Huts_read_121 : decode prog_3_method_7_code 121 = .ok (.getfield 16, 3) := by decide +kernel
theorem d_Huts_read_124 : decode prog_3_method_7_code 124 = .ok (.aload_n 0, 1) := by decide +kernel
theorem d_Huts_read_125 : decode prog_3_method_7_code 125 = .ok (.getfield 23, 3) := by decide +kernel
theorem d_Huts_read_128 : decode prog_3_method_7_code 128 = .ok (.aaload, 1) := by decide +kernel
theorem d_Huts_read_129 : decode prog_3_method_7_code 129 = .ok (.iload_n 3, 1) := by decide +kernel
theorem d_Huts_read_130 : decode prog_3_method_7_code 130 = .ok (.iload 4, 2) := by decide +kernel
theorem d_Huts_read_132 : decode prog_3_method_7_code 132 = .ok (.iastore, 1) := by decide +kernel
theorem d_Huts_read_133 : decode prog_3_method_7_code 133 = .ok (.goto 35, 3) := by decide +kernel
theorem d_Huts_read_136 : decode prog_3_method_7_code 136 = .ok (.iload 7, 2) := by decide +kernel
theorem d_Huts_read_138 : decode prog_3_method_7_code 138 = .ok (.bipush 50, 2) := by decide +kernel
theorem d_Huts_read_140 : decode prog_3_method_7_code 140 = .ok (.if_icmp .lt 25, 3) := by decide +kernel
theorem d_Huts_read_143 : decode prog_3_method_7_code 143 = .ok (.iload 7, 2) := by decide +kernel
theorem d_Huts_read_145 : decode prog_3_method_7_code 145 = .ok (.bipush 57, 2) := by decide +kernel
theorem d_Huts_read_147 : decode prog_3_method_7_code 147 = .ok (.if_icmp .gt 18, 3) := by decide +kernel
theorem d_Huts_read_150 : decode prog_3_method_7_code 150 = .ok (.iload 5, 2) := by decide +kernel
theorem d_Huts_read_152 : decode prog_3_method_7_code 152 = .ok (.ifCond .ne 13, 3) := by decide +kernel
theorem d_Huts_read_155 : decode prog_3_method_7_code 155 = .ok (.iload 7, 2) := by decide +kernel
theorem d_Huts_read_157 : decode prog_3_method_7_code 157 = .ok (.bipush 48, 2) := by decide +kernel
theorem d_Huts_read_159 : decode prog_3_method_7_code 159 = .ok (.isub, 1) := by decide +kernel
theorem d_Huts_read_160 : decode prog_3_method_7_code 160 = .ok (.istore 5, 2) := by decide +kernel
theorem d_Huts_read_162 : decode prog_3_method_7_code 162 = .ok (.goto 6, 3) := by decide +kernel
theorem d_Huts_read_165 : decode prog_3_method_7_code 165 = .ok (.iload 6, 2) := by decide +kernel
theorem d_Huts_read_167 : decode prog_3_method_7_code 167 = .ok (.ireturn, 1) := by decide +kernel
theorem d_Huts_read_168 : decode prog_3_method_7_code 168 = .ok (.iinc 6 1, 3) := by decide +kernel
theorem d_Huts_read_171 : decode prog_3_method_7_code 171 = .ok (.goto (-133), 3) := by decide +kernel
theorem d_Huts_read_174 : decode prog_3_method_7_code 174 = .ok (.iload 5, 2) := by decide +kernel
theorem d_Huts_read_176 : decode prog_3_method_7_code 176 = .ok (.ifCond .eq 5, 3) := by decide +kernel
theorem d_Huts_read_179 : decode prog_3_method_7_code 179 = .ok (.iload_n 2, 1) := by decide +kernel
theorem d_Huts_read_180 : decode prog_3_method_7_code 180 = .ok (.ireturn, 1) := by decide +kernel
theorem d_Huts_read_181 : decode prog_3_method_7_code 181 = .ok (.aload_n 0, 1) := by decide +kernel
theorem d_Huts_read_182 : decode prog_3_method_7_code 182 = .ok (.getfield 16, 3) := by decide +kernel
theorem d_Huts_read_185 : decode prog_3_method_7_code 185 = .ok (.aload_n 0, 1) := by decide +kernel
theorem d_Huts_read_186 : decode prog_3_method_7_code 186 = .ok (.getfield 23, 3) := by decide +kernel
theorem d_Huts_read_189 : decode prog_3_method_7_code 189 = .ok (.aaload, 1) := by decide +kernel
theorem d_Huts_read_190 : decode prog_3_method_7_code 190 = .ok (.iload_n 3, 1) := by decide +kernel
theorem d_Huts_read_191 : decode prog_3_method_7_code 191 = .ok (.iconst 1, 1) := by decide +kernel
theorem d_Huts_read_192 : decode prog_3_method_7_code 192 = .ok (.iadd, 1) := by decide +kernel
theorem d_Huts_read_193 : decode prog_3_method_7_code 193 = .ok (.iload 4, 2) := by decide +kernel
theorem d_Huts_read_195 : decode prog_3_method_7_code 195 = .ok (.iastore, 1) := by decide +kernel
theorem d_Huts_read_196 : decode prog_3_method_7_code 196 = .ok (.aload_n 0, 1) := by decide +kernel
theorem d_Huts_read_197 : decode prog_3_method_7_code 197 = .ok (.getfield 19, 3) := by decide +kernel
theorem d_Huts_read_200 : decode prog_3_method_7_code 200 = .ok (.aload_n 0, 1) := by decide +kernel
theorem d_Huts_read_201 : decode prog_3_method_7_code 201 = .ok (.getfield 23, 3) := by decide +kernel
theorem d_Huts_read_204 : decode prog_3_method_7_code 204 = .ok (.iload_n 3, 1) := by decide +kernel
theorem d_Huts_read_205 : decode prog_3_method_7_code 205 = .ok (.iconst 1, 1) := by decide +kernel
theorem d_Huts_read_206 : decode prog_3_method_7_code 206 = .ok (.iadd, 1) := by decide +kernel
theorem d_Huts_read_207 : decode prog_3_method_7_code 207 = .ok (.iastore, 1) := by decide +kernel
theorem d_Huts_read_208 : decode prog_3_method_7_code 208 = .ok (.aload_n 0, 1) := by decide +kernel
theorem d_Huts_read_209 : decode prog_3_method_7_code 209 = .ok (.dup, 1) := by decide +kernel
theorem d_Huts_read_210 : decode prog_3_method_7_code 210 = .ok (.getfield 23, 3) := by decide +kernel
theorem d_Huts_read_213 : decode prog_3_method_7_code 213 = .ok (.iconst 1, 1) := by decide +kernel
theorem d_Huts_read_214 : decode prog_3_method_7_code 214 = .ok (.iadd, 1) := by decide +kernel
theorem d_Huts_read_215 : decode prog_3_method_7_code 215 = .ok (.putfield 23, 3) := by decide +kernel
theorem d_Huts_read_218 : decode prog_3_method_7_code 218 = .ok (.iconst (-1), 1) := by decide +kernel
theorem d_Huts_read_219 : decode prog_3_method_7_code 219 = .ok (.ireturn, 1) := by decide +kernel
set_option maxHeartbeats 4000000 in
set_option maxRecDepth 100000 in
theorem r_Huts_read_136 {p : Program} {l : Launch} {e : Env} {s : State} {m : MethodId} {args : Array Value} {below : List Frame} {meth : Method} {c : Code} {G : zG} {K : Nat} (X : zX p s m args meth c "AllHome$Huts" prog_3_method_7_code 9 (some .int) G (zA G K)) {r : Int32} {h' : zH} (a0 : Nat) (a1 : Nat) (x2 : Int32) (x3 : Int32) (x4 : Int32) (x5 : Int32) (x6 : Int32) (x7 : Int32) (h : zH) (k38 : (Int32 × Int32 × Int32 × Int32 × zH) → Option (Int32 × zH)) (hk38 : ∀ (w : Int32 × Int32 × Int32 × Int32 × zH), k38 w = some (r, h') → ∀ (H : Heap) (locs : List Loc) (ls : Array Slot), zI G K s (zA G K) H locs w.2.2.2.2 → lv_has ls 9 [(0, .ref (G.1 a0)), (1, .ref (G.1 a1)), (2, .int x2), (3, .int w.1), (4, .int w.2.1), (5, .int w.2.2.1), (6, .int w.2.2.2.1)] → W p l e (zR 2) s m args below meth c H locs 0 0 (MQ below (zQi G K r h') args s 0 0 (zA G K)) (F0 m 38 ls [])) (hm : g_Huts_read_136 a0 a1 x2 x3 x4 x5 x6 x7 h k38 = some (r, h')) {H : Heap} {locs : List Loc} {ls : Array Slot} (hI : zI G K s (zA G K) H locs h) (hl : lv_has ls 9 [(0, .ref (G.1 a0)), (1, .ref (G.1 a1)), (2, .int x2), (3, .int x3), (4, .int x4), (5, .int x5), (6, .int x6), (7, .int x7)]) : W p l e (zR 2) s m args below meth c H locs 0 0 (MQ below (zQi G K r h') args s 0 0 (zA G K)) (F0 m 136 ls []) := by
  obtain ⟨hx, hb, hml, hown, hts, hr, hlocks, hK, hST, hNs⟩ := id X
  unfold g_Huts_read_136 at hm
  refine lv_iload hx hb d_Huts_read_136 (lv_at hl 7 rfl) ?_
  refine lv_bipush (v := (nI 50)) hx hb d_Huts_read_138 (by decide) ?_
  refine lv_icmp_lt (tgt := 165) hx hb d_Huts_read_140 (by decide) (fun hc140 => ?_) (fun hc140 => ?_)
  · replace hm := zif_t hc140 hm
    refine lv_iload hx hb d_Huts_read_165 (lv_at hl 6 rfl) ?_
    obtain ⟨rfl, rfl⟩ := zs2 hm
    exact z_iret X hI d_Huts_read_167
  · replace hm := zif_f hc140 hm
    refine lv_iload hx hb d_Huts_read_143 (lv_at hl 7 rfl) ?_
    refine lv_bipush (v := (nI 57)) hx hb d_Huts_read_145 (by decide) ?_
    refine lv_icmp_gt (tgt := 165) hx hb d_Huts_read_147 (by decide) (fun hc147 => ?_) (fun hc147 => ?_)
    · replace hm := zif_t hc147 hm
      refine lv_iload hx hb d_Huts_read_165 (lv_at hl 6 rfl) ?_
      obtain ⟨rfl, rfl⟩ := zs2 hm
      exact z_iret X hI d_Huts_read_167
    · replace hm := zif_f hc147 hm
      refine lv_iload hx hb d_Huts_read_150 (lv_at hl 5 rfl) ?_
      refine lv_if_ne (tgt := 165) hx hb d_Huts_read_152 (by decide) (fun hc152 => ?_) (fun hc152 => ?_)
      · replace hm := zif_f hc152 hm
        refine lv_iload hx hb d_Huts_read_165 (lv_at hl 6 rfl) ?_
        obtain ⟨rfl, rfl⟩ := zs2 hm
        exact z_iret X hI d_Huts_read_167
      · replace hm := zif_t hc152 hm
        refine lv_iload hx hb d_Huts_read_155 (lv_at hl 7 rfl) ?_
        refine lv_bipush (v := (nI 48)) hx hb d_Huts_read_157 (by decide) ?_
        refine lv_isub hx hb d_Huts_read_159 ?_
        refine lv_istore (lv' := [(5, .int (x7 - (nI 48))), (0, .ref (G.1 a0)), (1, .ref (G.1 a1)), (2, .int x2), (3, .int x3), (4, .int x4), (6, .int x6), (7, .int x7)]) hx hb d_Huts_read_160 hl (by decide) rfl (fun ls hl => ?_)
        refine lv_goto (tgt := 168) hx hb d_Huts_read_162 (by decide) ?_
        refine lv_iinc (v := (x6 + (nI 1))) (lv' := [(6, .int (x6 + (nI 1))), (5, .int (x7 - (nI 48))), (0, .ref (G.1 a0)), (1, .ref (G.1 a1)), (2, .int x2), (3, .int x3), (4, .int x4), (7, .int x7)]) hx hb d_Huts_read_168 hl (k := 6) rfl (congrArg (fun z => x6 + z) (show Int32.ofInt (1) = (nI 1) by decide)) (by decide) rfl (fun ls hl => ?_)
        refine lv_goto (tgt := 38) hx hb d_Huts_read_171 (by decide) ?_
        obtain ⟨g2, e2⟩ : ∃ z, z = (x7 - (nI 48)) := ⟨_, rfl⟩
        rw [← e2] at hm hl
        obtain ⟨g3, e3⟩ : ∃ z, z = (x6 + (nI 1)) := ⟨_, rfl⟩
        rw [← e3] at hm hl
        exact hk38 (x3, x4, g2, g3, h) hm _ _ _ hI (lv_sub hl [2, 3, 4, 5, 6, 1, 0] rfl)
set_option maxHeartbeats 4000000 in
set_option maxRecDepth 100000 in
theorem r_Huts_read_105 {p : Program} {l : Launch} {e : Env} {s : State} {m : MethodId} {args : Array Value} {below : List Frame} {meth : Method} {c : Code} {G : zG} {K : Nat} (X : zX p s m args meth c "AllHome$Huts" prog_3_method_7_code 9 (some .int) G (zA G K)) {r : Int32} {h' : zH} (a0 : Nat) (a1 : Nat) (x2 : Int32) (x3 : Int32) (x4 : Int32) (x5 : Int32) (x6 : Int32) (x7 : Int32) (h : zH) (k38 : (Int32 × Int32 × Int32 × Int32 × zH) → Option (Int32 × zH)) (hk38 : ∀ (w : Int32 × Int32 × Int32 × Int32 × zH), k38 w = some (r, h') → ∀ (H : Heap) (locs : List Loc) (ls : Array Slot), zI G K s (zA G K) H locs w.2.2.2.2 → lv_has ls 9 [(0, .ref (G.1 a0)), (1, .ref (G.1 a1)), (2, .int x2), (3, .int w.1), (4, .int w.2.1), (5, .int w.2.2.1), (6, .int w.2.2.2.1)] → W p l e (zR 2) s m args below meth c H locs 0 0 (MQ below (zQi G K r h') args s 0 0 (zA G K)) (F0 m 38 ls [])) (hm : g_Huts_read_105 a0 a1 x2 x3 x4 x5 x6 x7 h k38 = some (r, h')) {H : Heap} {locs : List Loc} {ls : Array Slot} (hI : zI G K s (zA G K) H locs h) (hl : lv_has ls 9 [(0, .ref (G.1 a0)), (1, .ref (G.1 a1)), (2, .int x2), (3, .int x3), (4, .int x4), (5, .int x5), (6, .int x6), (7, .int x7)]) : W p l e (zR 2) s m args below meth c H locs 0 0 (MQ below (zQi G K r h') args s 0 0 (zA G K)) (F0 m 105 ls []) := by
  obtain ⟨hx, hb, hml, hown, hts, hr, hlocks, hK, hST, hNs⟩ := id X
  unfold g_Huts_read_105 at hm
  refine lv_iload hx hb d_Huts_read_105 (lv_at hl 7 rfl) ?_
  refine lv_bipush (v := (nI 59)) hx hb d_Huts_read_107 (by decide) ?_
  refine lv_icmp_ne (tgt := 136) hx hb d_Huts_read_109 (by decide) (fun hc109 => ?_) (fun hc109 => ?_)
  · replace hm := zif_f hc109 hm
    exact r_Huts_read_136 X a0 a1 x2 x3 x4 x5 x6 x7 h k38 hk38 hm hI (lv_sub hl [0, 1, 2, 3, 4, 5, 6, 7] rfl)
  · replace hm := zif_t hc109 hm
    refine lv_iload hx hb d_Huts_read_112 (lv_at hl 5 rfl) ?_
    refine lv_if_ne (tgt := 136) hx hb d_Huts_read_114 (by decide) (fun hc114 => ?_) (fun hc114 => ?_)
    · replace hm := zif_f hc114 hm
      exact r_Huts_read_136 X a0 a1 x2 x3 x4 x5 x6 x7 h k38 hk38 hm hI (lv_sub hl [0, 1, 2, 3, 4, 5, 6, 7] rfl)
    · replace hm := zif_t hc114 hm
      refine lv_iinc (v := (x3 + (nI 1))) (lv' := [(3, .int (x3 + (nI 1))), (0, .ref (G.1 a0)), (1, .ref (G.1 a1)), (2, .int x2), (4, .int x4), (5, .int x5), (6, .int x6), (7, .int x7)]) hx hb d_Huts_read_117 hl (k := 3) rfl (congrArg (fun z => x3 + z) (show Int32.ofInt (1) = (nI 1) by decide)) (by decide) rfl (fun ls hl => ?_)
      refine lv_aload_n hx hb d_Huts_read_120 rfl (lv_at hl 1 rfl) ?_
      obtain ⟨v121, hv, hm⟩ := zbd hm
      refine z_getR X hI F_Huts_16 hv d_Huts_read_121 ?_
      refine lv_aload_n hx hb d_Huts_read_124 rfl (lv_at hl 1 rfl) ?_
      obtain ⟨v125, hv, hm⟩ := zbd hm
      refine z_getI X hI F_Huts_23 hv d_Huts_read_125 ?_
      obtain ⟨v128, hv, hm⟩ := zbd hm
      refine z_aald X hI 5 (.array .int) rfl rfl hv d_Huts_read_128 ?_
      refine lv_iload_n hx hb d_Huts_read_129 rfl (lv_at hl 0 rfl) ?_
      refine lv_iload hx hb d_Huts_read_130 (lv_at hl 4 rfl) ?_
      obtain ⟨h132, hv, hm⟩ := zbd hm
      refine z_iast X hI hv d_Huts_read_132 (fun H locs hI => ?_)
      refine lv_goto (tgt := 168) hx hb d_Huts_read_133 (by decide) ?_
      refine lv_iinc (v := (x6 + (nI 1))) (lv' := [(6, .int (x6 + (nI 1))), (3, .int (x3 + (nI 1))), (0, .ref (G.1 a0)), (1, .ref (G.1 a1)), (2, .int x2), (4, .int x4), (5, .int x5), (7, .int x7)]) hx hb d_Huts_read_168 hl (k := 6) rfl (congrArg (fun z => x6 + z) (show Int32.ofInt (1) = (nI 1) by decide)) (by decide) rfl (fun ls hl => ?_)
      refine lv_goto (tgt := 38) hx hb d_Huts_read_171 (by decide) ?_
      obtain ⟨g0, e0⟩ : ∃ z, z = (x3 + (nI 1)) := ⟨_, rfl⟩
      rw [← e0] at hm hl
      obtain ⟨g3, e3⟩ : ∃ z, z = (x6 + (nI 1)) := ⟨_, rfl⟩
      rw [← e3] at hm hl
      exact hk38 (g0, x4, x5, g3, h132) hm _ _ _ hI (lv_sub hl [2, 3, 4, 1, 5, 6, 0] rfl)
set_option maxHeartbeats 4000000 in
set_option maxRecDepth 100000 in
theorem r_Huts_read_38_b {p : Program} {l : Launch} {e : Env} {s : State} {m : MethodId} {args : Array Value} {below : List Frame} {meth : Method} {c : Code} {G : zG} {K : Nat} (X : zX p s m args meth c "AllHome$Huts" prog_3_method_7_code 9 (some .int) G (zA G K)) {r : Int32} {h' : zH} (a0 : Nat) (a1 : Nat) (x2 : Int32) (k38 : (Int32 × Int32 × Int32 × Int32 × zH) → Option (Int32 × zH)) (hk38 : ∀ (w : Int32 × Int32 × Int32 × Int32 × zH), k38 w = some (r, h') → ∀ (H : Heap) (locs : List Loc) (ls : Array Slot), zI G K s (zA G K) H locs w.2.2.2.2 → lv_has ls 9 [(0, .ref (G.1 a0)), (1, .ref (G.1 a1)), (2, .int x2), (3, .int w.1), (4, .int w.2.1), (5, .int w.2.2.1), (6, .int w.2.2.2.1)] → W p l e (zR 2) s m args below meth c H locs 0 0 (MQ below (zQi G K r h') args s 0 0 (zA G K)) (F0 m 38 ls [])) (u : Int32 × Int32 × Int32 × Int32 × zH) (hm : g_Huts_read_38 a0 a1 x2 k38 u = some (r, h')) {H : Heap} {locs : List Loc} {ls : Array Slot} (hI : zI G K s (zA G K) H locs u.2.2.2.2) (hl : lv_has ls 9 [(0, .ref (G.1 a0)), (1, .ref (G.1 a1)), (2, .int x2), (3, .int u.1), (4, .int u.2.1), (5, .int u.2.2.1), (6, .int u.2.2.2.1)]) : W p l e (zR 2) s m args below meth c H locs 0 0 (MQ below (zQi G K r h') args s 0 0 (zA G K)) (F0 m 38 ls []) := by
  obtain ⟨hx, hb, hml, hown, hts, hr, hlocks, hK, hST, hNs⟩ := id X
  unfold g_Huts_read_38 at hm
  refine lv_iload hx hb d_Huts_read_38 (lv_at hl 6 rfl) ?_
  refine lv_iload_n hx hb d_Huts_read_40 rfl (lv_at hl 2 rfl) ?_
  refine lv_icmp_ge (tgt := 174) hx hb d_Huts_read_41 (by decide) (fun hc41 => ?_) (fun hc41 => ?_)
  · replace hm := zif_t hc41 hm
    refine lv_iload hx hb d_Huts_read_174 (lv_at hl 5 rfl) ?_
    refine lv_if_eq (tgt := 181) hx hb d_Huts_read_176 (by decide) (fun hc176 => ?_) (fun hc176 => ?_)
    · replace hm := zif_t hc176 hm
      refine lv_aload_n hx hb d_Huts_read_181 rfl (lv_at hl 0 rfl) ?_
      obtain ⟨v182, hv, hm⟩ := zbd hm
      refine z_getR X hI F_Huts_16 hv d_Huts_read_182 ?_
      refine lv_aload_n hx hb d_Huts_read_185 rfl (lv_at hl 0 rfl) ?_
      obtain ⟨v186, hv, hm⟩ := zbd hm
      refine z_getI X hI F_Huts_23 hv d_Huts_read_186 ?_
      obtain ⟨v189, hv, hm⟩ := zbd hm
      refine z_aald X hI 5 (.array .int) rfl rfl hv d_Huts_read_189 ?_
      refine lv_iload_n hx hb d_Huts_read_190 rfl (lv_at hl 3 rfl) ?_
      refine lv_iconst (v := (nI 1)) hx hb d_Huts_read_191 (by decide) ?_
      refine lv_iadd hx hb d_Huts_read_192 ?_
      refine lv_iload hx hb d_Huts_read_193 (lv_at hl 4 rfl) ?_
      obtain ⟨h195, hv, hm⟩ := zbd hm
      refine z_iast X hI hv d_Huts_read_195 (fun H locs hI => ?_)
      refine lv_aload_n hx hb d_Huts_read_196 rfl (lv_at hl 0 rfl) ?_
      obtain ⟨v197, hv, hm⟩ := zbd hm
      refine z_getR X hI F_Huts_19 hv d_Huts_read_197 ?_
      refine lv_aload_n hx hb d_Huts_read_200 rfl (lv_at hl 0 rfl) ?_
      obtain ⟨v201, hv, hm⟩ := zbd hm
      refine z_getI X hI F_Huts_23 hv d_Huts_read_201 ?_
      refine lv_iload_n hx hb d_Huts_read_204 rfl (lv_at hl 3 rfl) ?_
      refine lv_iconst (v := (nI 1)) hx hb d_Huts_read_205 (by decide) ?_
      refine lv_iadd hx hb d_Huts_read_206 ?_
      obtain ⟨h207, hv, hm⟩ := zbd hm
      refine z_iast X hI hv d_Huts_read_207 (fun H locs hI => ?_)
      refine lv_aload_n hx hb d_Huts_read_208 rfl (lv_at hl 0 rfl) ?_
      refine lv_dup hx hb d_Huts_read_209 rfl ?_
      obtain ⟨v210, hv, hm⟩ := zbd hm
      refine z_getI X hI F_Huts_23 hv d_Huts_read_210 ?_
      refine lv_iconst (v := (nI 1)) hx hb d_Huts_read_213 (by decide) ?_
      refine lv_iadd hx hb d_Huts_read_214 ?_
      obtain ⟨h215, hv, hm⟩ := zbd hm
      refine z_putI X hI P_Huts_23 hv d_Huts_read_215 (fun H locs hI => ?_)
      refine lv_iconst (v := (-1 : Int32)) hx hb d_Huts_read_218 (by decide) ?_
      obtain ⟨rfl, rfl⟩ := zs2 hm
      exact z_iret X hI d_Huts_read_219
    · replace hm := zif_f hc176 hm
      refine lv_iload_n hx hb d_Huts_read_179 rfl (lv_at hl 2 rfl) ?_
      obtain ⟨rfl, rfl⟩ := zs2 hm
      exact z_iret X hI d_Huts_read_180
  · replace hm := zif_f hc41 hm
    refine lv_aload_n hx hb d_Huts_read_44 rfl (lv_at hl 1 rfl) ?_
    refine lv_iload hx hb d_Huts_read_45 (lv_at hl 6 rfl) ?_
    obtain ⟨v47, hv, hm⟩ := zbd hm
    refine z_iald X hI hv d_Huts_read_47 ?_
    refine lv_istore (lv' := [(7, .int v47), (0, .ref (G.1 a0)), (1, .ref (G.1 a1)), (2, .int x2), (3, .int u.1), (4, .int u.2.1), (5, .int u.2.2.1), (6, .int u.2.2.2.1)]) hx hb d_Huts_read_48 hl (by decide) rfl (fun ls hl => ?_)
    refine lv_iload hx hb d_Huts_read_50 (lv_at hl 0 rfl) ?_
    refine lv_bipush (v := (nI 97)) hx hb d_Huts_read_52 (by decide) ?_
    refine lv_isub hx hb d_Huts_read_54 ?_
    refine lv_istore (lv' := [(8, .int (v47 - (nI 97))), (7, .int v47), (0, .ref (G.1 a0)), (1, .ref (G.1 a1)), (2, .int x2), (3, .int u.1), (4, .int u.2.1), (5, .int u.2.2.1), (6, .int u.2.2.2.1)]) hx hb d_Huts_read_55 hl (by decide) rfl (fun ls hl => ?_)
    refine lv_iload hx hb d_Huts_read_57 (lv_at hl 0 rfl) ?_
    refine lv_if_lt (tgt := 105) hx hb d_Huts_read_59 (by decide) (fun hc59 => ?_) (fun hc59 => ?_)
    · replace hm := zif_t hc59 hm
      exact r_Huts_read_105 X a0 a1 x2 u.1 u.2.1 u.2.2.1 u.2.2.2.1 v47 u.2.2.2.2 k38 hk38 hm hI (lv_sub hl [2, 3, 4, 5, 6, 7, 8, 1] rfl)
    · replace hm := zif_f hc59 hm
      refine lv_iload hx hb d_Huts_read_62 (lv_at hl 0 rfl) ?_
      refine lv_bipush (v := (nI 6)) hx hb d_Huts_read_64 (by decide) ?_
      refine lv_icmp_ge (tgt := 105) hx hb d_Huts_read_66 (by decide) (fun hc66 => ?_) (fun hc66 => ?_)
      · replace hm := zif_t hc66 hm
        exact r_Huts_read_105 X a0 a1 x2 u.1 u.2.1 u.2.2.1 u.2.2.2.1 v47 u.2.2.2.2 k38 hk38 hm hI (lv_sub hl [2, 3, 4, 5, 6, 7, 8, 1] rfl)
      · replace hm := zif_f hc66 hm
        refine lv_iload hx hb d_Huts_read_69 (lv_at hl 0 rfl) ?_
        refine lv_aload_n hx hb d_Huts_read_71 rfl (lv_at hl 2 rfl) ?_
        obtain ⟨v72, hv, hm⟩ := zbd hm
        refine z_getI X hI F_Huts_23 hv d_Huts_read_72 ?_
        refine lv_icmp_eq (tgt := 105) hx hb d_Huts_read_75 (by decide) (fun hc75 => ?_) (fun hc75 => ?_)
        · replace hm := zif_t hc75 hm
          exact r_Huts_read_105 X a0 a1 x2 u.1 u.2.1 u.2.2.1 u.2.2.2.1 v47 u.2.2.2.2 k38 hk38 hm hI (lv_sub hl [2, 3, 4, 5, 6, 7, 8, 1] rfl)
        · replace hm := zif_f hc75 hm
          refine lv_aload_n hx hb d_Huts_read_78 rfl (lv_at hl 2 rfl) ?_
          refine lv_iload hx hb d_Huts_read_79 (lv_at hl 6 rfl) ?_
          refine lv_iload hx hb d_Huts_read_81 (lv_at hl 0 rfl) ?_
          refine lv_iload hx hb d_Huts_read_83 (lv_at hl 7 rfl) ?_
          refine lv_if_ne (tgt := 92) hx hb d_Huts_read_85 (by decide) (fun hc85 => ?_) (fun hc85 => ?_)
          · replace hm := zif_f hc85 hm
            refine lv_iload hx hb d_Huts_read_92 (lv_at hl 7 rfl) ?_
            obtain ⟨v94, h94, hv, hm⟩ := zb2_at hm
            obtain ⟨hq, hv⟩ := zcv_at hv
            refine z_ci hI (z_runV (As := [.int u.2.1, .int (v47 - (nI 97)), .int u.2.2.1]) (rest := []) X hI hl.1 (c_Huts_addWords l G K a0 u.2.1 (v47 - (nI 97)) u.2.2.1 u.2.2.2.2 _ _ hv) C_Huts_31 rfl hq (Nat.le_of_ble_eq_true rfl) ⟨Nat.le_of_ble_eq_true rfl, Nat.le_of_ble_eq_true rfl, Nat.zero_le _, Nat.zero_le _⟩ rfl d_Huts_read_94) (fun H locs hI => ?_)
            refine lv_istore (lv' := [(4, .int v94), (8, .int (v47 - (nI 97))), (7, .int v47), (0, .ref (G.1 a0)), (1, .ref (G.1 a1)), (2, .int x2), (3, .int u.1), (5, .int u.2.2.1), (6, .int u.2.2.2.1)]) hx hb d_Huts_read_97 hl (by decide) rfl (fun ls hl => ?_)
            refine lv_iconst (v := (nI 0)) hx hb d_Huts_read_99 (by decide) ?_
            refine lv_istore (lv' := [(5, .int (nI 0)), (4, .int v94), (8, .int (v47 - (nI 97))), (7, .int v47), (0, .ref (G.1 a0)), (1, .ref (G.1 a1)), (2, .int x2), (3, .int u.1), (6, .int u.2.2.2.1)]) hx hb d_Huts_read_100 hl (by decide) rfl (fun ls hl => ?_)
            refine lv_goto (tgt := 168) hx hb d_Huts_read_102 (by decide) ?_
            refine lv_iinc (v := (u.2.2.2.1 + (nI 1))) (lv' := [(6, .int (u.2.2.2.1 + (nI 1))), (5, .int (nI 0)), (4, .int v94), (8, .int (v47 - (nI 97))), (7, .int v47), (0, .ref (G.1 a0)), (1, .ref (G.1 a1)), (2, .int x2), (3, .int u.1)]) hx hb d_Huts_read_168 hl (k := 8) rfl (congrArg (fun z => u.2.2.2.1 + z) (show Int32.ofInt (1) = (nI 1) by decide)) (by decide) rfl (fun ls hl => ?_)
            refine lv_goto (tgt := 38) hx hb d_Huts_read_171 (by decide) ?_
            obtain ⟨g0, e0⟩ : ∃ z, z = u.1 := ⟨_, rfl⟩
            rw [← e0] at hm hl
            obtain ⟨g3, e3⟩ : ∃ z, z = (u.2.2.2.1 + (nI 1)) := ⟨_, rfl⟩
            rw [← e3] at hm hl
            exact hk38 (g0, v94, (nI 0), g3, h94) hm _ _ _ hI (lv_sub hl [5, 6, 7, 8, 2, 1, 0] rfl)
          · replace hm := zif_t hc85 hm
            refine lv_iconst (v := (nI 1)) hx hb d_Huts_read_88 (by decide) ?_
            refine lv_goto (tgt := 94) hx hb d_Huts_read_89 (by decide) ?_
            obtain ⟨v94, h94, hv, hm⟩ := zb2_at hm
            obtain ⟨hq, hv⟩ := zcv_at hv
            refine z_ci hI (z_runV (As := [.int u.2.1, .int (v47 - (nI 97)), .int (nI 1)]) (rest := []) X hI hl.1 (c_Huts_addWords l G K a0 u.2.1 (v47 - (nI 97)) (nI 1) u.2.2.2.2 _ _ hv) C_Huts_31 rfl hq (Nat.le_of_ble_eq_true rfl) ⟨Nat.le_of_ble_eq_true rfl, Nat.le_of_ble_eq_true rfl, Nat.zero_le _, Nat.zero_le _⟩ rfl d_Huts_read_94) (fun H locs hI => ?_)
            refine lv_istore (lv' := [(4, .int v94), (8, .int (v47 - (nI 97))), (7, .int v47), (0, .ref (G.1 a0)), (1, .ref (G.1 a1)), (2, .int x2), (3, .int u.1), (5, .int u.2.2.1), (6, .int u.2.2.2.1)]) hx hb d_Huts_read_97 hl (by decide) rfl (fun ls hl => ?_)
            refine lv_iconst (v := (nI 0)) hx hb d_Huts_read_99 (by decide) ?_
            refine lv_istore (lv' := [(5, .int (nI 0)), (4, .int v94), (8, .int (v47 - (nI 97))), (7, .int v47), (0, .ref (G.1 a0)), (1, .ref (G.1 a1)), (2, .int x2), (3, .int u.1), (6, .int u.2.2.2.1)]) hx hb d_Huts_read_100 hl (by decide) rfl (fun ls hl => ?_)
            refine lv_goto (tgt := 168) hx hb d_Huts_read_102 (by decide) ?_
            refine lv_iinc (v := (u.2.2.2.1 + (nI 1))) (lv' := [(6, .int (u.2.2.2.1 + (nI 1))), (5, .int (nI 0)), (4, .int v94), (8, .int (v47 - (nI 97))), (7, .int v47), (0, .ref (G.1 a0)), (1, .ref (G.1 a1)), (2, .int x2), (3, .int u.1)]) hx hb d_Huts_read_168 hl (k := 8) rfl (congrArg (fun z => u.2.2.2.1 + z) (show Int32.ofInt (1) = (nI 1) by decide)) (by decide) rfl (fun ls hl => ?_)
            refine lv_goto (tgt := 38) hx hb d_Huts_read_171 (by decide) ?_
            obtain ⟨g0, e0⟩ : ∃ z, z = u.1 := ⟨_, rfl⟩
            rw [← e0] at hm hl
            obtain ⟨g3, e3⟩ : ∃ z, z = (u.2.2.2.1 + (nI 1)) := ⟨_, rfl⟩
            rw [← e3] at hm hl
            exact hk38 (g0, v94, (nI 0), g3, h94) hm _ _ _ hI (lv_sub hl [5, 6, 7, 8, 2, 1, 0] rfl)
theorem r_Huts_read_38 {p : Program} {l : Launch} {e : Env} {s : State} {m : MethodId} {args : Array Value} {below : List Frame} {meth : Method} {c : Code} {G : zG} {K : Nat} (X : zX p s m args meth c "AllHome$Huts" prog_3_method_7_code 9 (some .int) G (zA G K)) {r : Int32} {h' : zH} (a0 : Nat) (a1 : Nat) (x2 : Int32) : ∀ (n : Nat) (w : Int32 × Int32 × Int32 × Int32 × zH), zloop (g_Huts_read_38 a0 a1 x2) n w = some (r, h') → ∀ (H : Heap) (locs : List Loc) (ls : Array Slot), zI G K s (zA G K) H locs w.2.2.2.2 → lv_has ls 9 [(0, .ref (G.1 a0)), (1, .ref (G.1 a1)), (2, .int x2), (3, .int w.1), (4, .int w.2.1), (5, .int w.2.2.1), (6, .int w.2.2.2.1)] → W p l e (zR 2) s m args below meth c H locs 0 0 (MQ below (zQi G K r h') args s 0 0 (zA G K)) (F0 m 38 ls []) := by
  intro n
  induction n with
  | zero => intro w hm; cases hm
  | succ n ih => intro w hm H locs ls hI hl; exact r_Huts_read_38_b X a0 a1 x2 (zloop (g_Huts_read_38 a0 a1 x2) n) ih w (zls hm) hI hl
set_option maxHeartbeats 4000000 in
set_option maxRecDepth 100000 in
theorem r_Huts_read_0 {p : Program} {l : Launch} {e : Env} {s : State} {m : MethodId} {args : Array Value} {below : List Frame} {meth : Method} {c : Code} {G : zG} {K : Nat} (X : zX p s m args meth c "AllHome$Huts" prog_3_method_7_code 9 (some .int) G (zA G K)) {r : Int32} {h' : zH} (a0 : Nat) (a1 : Nat) (x2 : Int32) (h : zH) (hm : m_Huts_read a0 a1 x2 h = some (r, h')) {H : Heap} {locs : List Loc} {ls : Array Slot} (hI : zI G K s (zA G K) H locs h) (hl : lv_has ls 9 [(0, .ref (G.1 a0)), (1, .ref (G.1 a1)), (2, .int x2)]) : W p l e (zR 2) s m args below meth c H locs 0 0 (MQ below (zQi G K r h') args s 0 0 (zA G K)) (F0 m 0 ls []) := by
  obtain ⟨hx, hb, hml, hown, hts, hr, hlocks, hK, hST, hNs⟩ := id X
  unfold m_Huts_read at hm
  refine lv_aload_n hx hb d_Huts_read_0 rfl (lv_at hl 0 rfl) ?_
  obtain ⟨v1, hv, hm⟩ := zbd hm
  refine z_getI X hI F_Huts_23 hv d_Huts_read_1 ?_
  refine lv_bipush (v := (nI 6)) hx hb d_Huts_read_4 (by decide) ?_
  refine lv_icmp_ge (tgt := 25) hx hb d_Huts_read_6 (by decide) (fun hc6 => ?_) (fun hc6 => ?_)
  · replace hm := zif_t hc6 hm
    refine lv_iconst (v := (nI 0)) hx hb d_Huts_read_25 (by decide) ?_
    obtain ⟨rfl, rfl⟩ := zs2 hm
    exact z_iret X hI d_Huts_read_26
  · replace hm := zif_f hc6 hm
    refine lv_iload_n hx hb d_Huts_read_9 rfl (lv_at hl 2 rfl) ?_
    refine lv_if_lt (tgt := 25) hx hb d_Huts_read_10 (by decide) (fun hc10 => ?_) (fun hc10 => ?_)
    · replace hm := zif_t hc10 hm
      refine lv_iconst (v := (nI 0)) hx hb d_Huts_read_25 (by decide) ?_
      obtain ⟨rfl, rfl⟩ := zs2 hm
      exact z_iret X hI d_Huts_read_26
    · replace hm := zif_f hc10 hm
      refine lv_iload_n hx hb d_Huts_read_13 rfl (lv_at hl 2 rfl) ?_
      refine lv_bipush (v := (nI 60)) hx hb d_Huts_read_14 (by decide) ?_
      refine lv_icmp_gt (tgt := 25) hx hb d_Huts_read_16 (by decide) (fun hc16 => ?_) (fun hc16 => ?_)
      · replace hm := zif_t hc16 hm
        refine lv_iconst (v := (nI 0)) hx hb d_Huts_read_25 (by decide) ?_
        obtain ⟨rfl, rfl⟩ := zs2 hm
        exact z_iret X hI d_Huts_read_26
      · replace hm := zif_f hc16 hm
        refine lv_iload_n hx hb d_Huts_read_19 rfl (lv_at hl 2 rfl) ?_
        refine lv_aload_n hx hb d_Huts_read_20 rfl (lv_at hl 1 rfl) ?_
        obtain ⟨v21, hv, hm⟩ := zbd hm
        refine z_alen X hI hv d_Huts_read_21 ?_
        refine lv_icmp_le (tgt := 27) hx hb d_Huts_read_22 (by decide) (fun hc22 => ?_) (fun hc22 => ?_)
        · replace hm := zif_t hc22 hm
          refine lv_iconst (v := (nI 0)) hx hb d_Huts_read_27 (by decide) ?_
          refine lv_istore_n (lv' := [(3, .int (nI 0)), (0, .ref (G.1 a0)), (1, .ref (G.1 a1)), (2, .int x2)]) hx hb d_Huts_read_28 rfl hl (by decide) rfl (fun ls hl => ?_)
          refine lv_iconst (v := (nI 0)) hx hb d_Huts_read_29 (by decide) ?_
          refine lv_istore (lv' := [(4, .int (nI 0)), (3, .int (nI 0)), (0, .ref (G.1 a0)), (1, .ref (G.1 a1)), (2, .int x2)]) hx hb d_Huts_read_30 hl (by decide) rfl (fun ls hl => ?_)
          refine lv_iconst (v := (nI 0)) hx hb d_Huts_read_32 (by decide) ?_
          refine lv_istore (lv' := [(5, .int (nI 0)), (4, .int (nI 0)), (3, .int (nI 0)), (0, .ref (G.1 a0)), (1, .ref (G.1 a1)), (2, .int x2)]) hx hb d_Huts_read_33 hl (by decide) rfl (fun ls hl => ?_)
          refine lv_iconst (v := (nI 0)) hx hb d_Huts_read_35 (by decide) ?_
          refine lv_istore (lv' := [(6, .int (nI 0)), (5, .int (nI 0)), (4, .int (nI 0)), (3, .int (nI 0)), (0, .ref (G.1 a0)), (1, .ref (G.1 a1)), (2, .int x2)]) hx hb d_Huts_read_36 hl (by decide) rfl (fun ls hl => ?_)
          exact r_Huts_read_38 X a0 a1 x2 zN ((nI 0), (nI 0), (nI 0), (nI 0), h) hm _ _ _ hI (lv_sub hl [4, 5, 6, 3, 2, 1, 0] rfl)
        · replace hm := zif_f hc22 hm
          refine lv_iconst (v := (nI 0)) hx hb d_Huts_read_25 (by decide) ?_
          obtain ⟨rfl, rfl⟩ := zs2 hm
          exact z_iret X hI d_Huts_read_26
set_option maxHeartbeats 4000000 in
set_option maxRecDepth 100000 in
theorem c_Huts_read (l : Launch) (G : zG) (K : Nat) (a0 : Nat) (a1 : Nat) (x2 : Int32) (h : zH) (r : Int32) (h' : zH) (hm : m_Huts_read a0 a1 x2 h = some (r, h')) : zMi l G K y_Huts_read prog_3_method_7_code 9 2 [.ref (G.1 a0), .ref (G.1 a1), .int x2] h r h' := zMet (by decide +kernel) (Nat.le_of_ble_eq_true rfl) (fun p e s m below meth c ls X hI hl => r_Huts_read_0 X a0 a1 x2 h hm hI hl)
-- walk of AllHome$Orders.forget
theorem d_Orders_forget_0 : decode prog_4_method_2_code 0 = .ok (.aload_n 0, 1) := by decide +kernel
theorem d_Orders_forget_1 : decode prog_4_method_2_code 1 = .ok (.iconst (-1), 1) := by decide +kernel
theorem d_Orders_forget_2 : decode prog_4_method_2_code 2 = .ok (.putfield 42, 3) := by decide +kernel
theorem d_Orders_forget_5 : decode prog_4_method_2_code 5 = .ok (.return_, 1) := by decide +kernel
set_option maxHeartbeats 4000000 in
set_option maxRecDepth 100000 in
theorem r_Orders_forget_0 {p : Program} {l : Launch} {e : Env} {s : State} {m : MethodId} {args : Array Value} {below : List Frame} {meth : Method} {c : Code} {G : zG} {K : Nat} (X : zX p s m args meth c "AllHome$Orders" prog_4_method_2_code 1 none G (zA G K)) {h' : zH} (a0 : Nat) (h : zH) (hm : m_Orders_forget a0 h = some h') {H : Heap} {locs : List Loc} {ls : Array Slot} (hI : zI G K s (zA G K) H locs h) (hl : lv_has ls 1 [(0, .ref (G.1 a0))]) : W p l e (zR 0) s m args below meth c H locs 0 0 (MQ below (zQv G K h') args s 0 0 (zA G K)) (F0 m 0 ls []) := by
  obtain ⟨hx, hb, hml, hown, hts, hr, hlocks, hK, hST, hNs⟩ := id X
  unfold m_Orders_forget at hm
  refine lv_aload_n hx hb d_Orders_forget_0 rfl (lv_at hl 0 rfl) ?_
  refine lv_iconst (v := (-1 : Int32)) hx hb d_Orders_forget_1 (by decide) ?_
  obtain ⟨h2, hv, hm⟩ := zbd hm
  refine z_putI X hI P_Orders_42 hv d_Orders_forget_2 (fun H locs hI => ?_)
  obtain rfl := zs1 hm
  exact z_vret X hI d_Orders_forget_5
set_option maxHeartbeats 4000000 in
set_option maxRecDepth 100000 in
theorem c_Orders_forget (l : Launch) (G : zG) (K : Nat) (a0 : Nat) (h : zH) (h' : zH) (hm : m_Orders_forget a0 h = some h') : zMv l G K y_Orders_forget prog_4_method_2_code 1 0 [.ref (G.1 a0)] h h' := zMet (by decide +kernel) (Nat.le_of_ble_eq_true rfl) (fun p e s m below meth c ls X hI hl => r_Orders_forget_0 X a0 h hm hI hl)
-- walk of AllHome.hut
theorem d_Home_hut_0 : decode prog_1_method_3_code 0 = .ok (.aload_n 0, 1) := by decide +kernel
theorem d_Home_hut_1 : decode prog_1_method_3_code 1 = .ok (.getfield 63, 3) := by decide +kernel
theorem d_Home_hut_4 : decode prog_1_method_3_code 4 = .ok (.ifCond .le 6, 3) := by decide +kernel
theorem d_Home_hut_7 : decode prog_1_method_3_code 7 = .ok (.bipush (-5), 2) := by decide +kernel
theorem d_Home_hut_9 : decode prog_1_method_3_code 9 = .ok (.ireturn, 1) := by decide +kernel
theorem d_Home_hut_10 : decode prog_1_method_3_code 10 = .ok (.aload_n 0, 1) := by decide +kernel
theorem d_Home_hut_11 : decode prog_1_method_3_code 11 = .ok (.getfield 16, 3) := by decide +kernel
theorem d_Home_hut_14 : decode prog_1_method_3_code 14 = .ok (.invokevirtual 66, 3) := by decide +kernel
theorem d_Home_hut_17 : decode prog_1_method_3_code 17 = .ok (.bipush 6, 2) := by decide +kernel
theorem d_Home_hut_19 : decode prog_1_method_3_code 19 = .ok (.if_icmp .lt 6, 3) := by decide +kernel
theorem d_Home_hut_22 : decode prog_1_method_3_code 22 = .ok (.bipush (-3), 2) := by decide +kernel
theorem d_Home_hut_24 : decode prog_1_method_3_code 24 = .ok (.ireturn, 1) := by decide +kernel
theorem d_Home_hut_25 : decode prog_1_method_3_code 25 = .ok (.aload_n 0, 1) := by decide +kernel
theorem d_Home_hut_26 : decode prog_1_method_3_code 26 = .ok (.getfield 16, 3) := by decide +kernel
theorem d_Home_hut_29 : decode prog_1_method_3_code 29 = .ok (.aload_n 0, 1) := by decide +kernel
theorem d_Home_hut_30 : decode prog_1_method_3_code 30 = .ok (.getfield 9, 3) := by decide +kernel
theorem d_Home_hut_33 : decode prog_1_method_3_code 33 = .ok (.aload_n 0, 1) := by decide +kernel
theorem d_Home_hut_34 : decode prog_1_method_3_code 34 = .ok (.getfield 59, 3) := by decide +kernel
theorem d_Home_hut_37 : decode prog_1_method_3_code 37 = .ok (.invokevirtual 70, 3) := by decide +kernel
theorem d_Home_hut_40 : decode prog_1_method_3_code 40 = .ok (.istore_n 1, 1) := by decide +kernel
theorem d_Home_hut_41 : decode prog_1_method_3_code 41 = .ok (.aload_n 0, 1) := by decide +kernel
theorem d_Home_hut_42 : decode prog_1_method_3_code 42 = .ok (.iconst 0, 1) := by decide +kernel
theorem d_Home_hut_43 : decode prog_1_method_3_code 43 = .ok (.putfield 59, 3) := by decide +kernel
theorem d_Home_hut_46 : decode prog_1_method_3_code 46 = .ok (.iload_n 1, 1) := by decide +kernel
theorem d_Home_hut_47 : decode prog_1_method_3_code 47 = .ok (.iconst (-1), 1) := by decide +kernel
theorem d_Home_hut_48 : decode prog_1_method_3_code 48 = .ok (.if_icmp .eq 8, 3) := by decide +kernel
theorem d_Home_hut_51 : decode prog_1_method_3_code 51 = .ok (.bipush (-100), 2) := by decide +kernel
theorem d_Home_hut_53 : decode prog_1_method_3_code 53 = .ok (.iload_n 1, 1) := by decide +kernel
theorem d_Home_hut_54 : decode prog_1_method_3_code 54 = .ok (.isub, 1) := by decide +kernel
theorem d_Home_hut_55 : decode prog_1_method_3_code 55 = .ok (.ireturn, 1) := by decide +kernel
theorem d_Home_hut_56 : decode prog_1_method_3_code 56 = .ok (.aload_n 0, 1) := by decide +kernel
theorem d_Home_hut_57 : decode prog_1_method_3_code 57 = .ok (.getfield 37, 3) := by decide +kernel
theorem d_Home_hut_60 : decode prog_1_method_3_code 60 = .ok (.invokevirtual 74, 3) := by decide +kernel
theorem d_Home_hut_63 : decode prog_1_method_3_code 63 = .ok (.aload_n 0, 1) := by decide +kernel
theorem d_Home_hut_64 : decode prog_1_method_3_code 64 = .ok (.getfield 41, 3) := by decide +kernel
theorem d_Home_hut_67 : decode prog_1_method_3_code 67 = .ok (.invokevirtual 74, 3) := by decide +kernel
theorem d_Home_hut_70 : decode prog_1_method_3_code 70 = .ok (.aload_n 0, 1) := by decide +kernel
theorem d_Home_hut_71 : decode prog_1_method_3_code 71 = .ok (.getfield 16, 3) := by decide +kernel
theorem d_Home_hut_74 : decode prog_1_method_3_code 74 = .ok (.invokevirtual 66, 3) := by decide +kernel
theorem d_Home_hut_77 : decode prog_1_method_3_code 77 = .ok (.iconst 1, 1) := by decide +kernel
theorem d_Home_hut_78 : decode prog_1_method_3_code 78 = .ok (.isub, 1) := by decide +kernel
theorem d_Home_hut_79 : decode prog_1_method_3_code 79 = .ok (.ireturn, 1) := by decide +kernel
set_option maxHeartbeats 4000000 in
set_option maxRecDepth 100000 in
theorem r_Home_hut_0 {p : Program} {l : Launch} {e : Env} {s : State} {m : MethodId} {args : Array Value} {below : List Frame} {meth : Method} {c : Code} {G : zG} {K : Nat} (X : zX p s m args meth c "AllHome" prog_1_method_3_code 2 (some .int) G (zA G K)) {r : Int32} {h' : zH} (a0 : Nat) (h : zH) (hm : m_Home_hut a0 h = some (r, h')) {H : Heap} {locs : List Loc} {ls : Array Slot} (hI : zI G K s (zA G K) H locs h) (hl : lv_has ls 2 [(0, .ref (G.1 a0))]) : W p l e (zR 3) s m args below meth c H locs 0 0 (MQ below (zQi G K r h') args s 0 0 (zA G K)) (F0 m 0 ls []) := by
  obtain ⟨hx, hb, hml, hown, hts, hr, hlocks, hK, hST, hNs⟩ := id X
  unfold m_Home_hut at hm
  refine lv_aload_n hx hb d_Home_hut_0 rfl (lv_at hl 0 rfl) ?_
  obtain ⟨v1, hv, hm⟩ := zbd hm
  refine z_getI X hI F_Home_63 hv d_Home_hut_1 ?_
  refine lv_if_le (tgt := 10) hx hb d_Home_hut_4 (by decide) (fun hc4 => ?_) (fun hc4 => ?_)
  · replace hm := zif_t hc4 hm
    refine lv_aload_n hx hb d_Home_hut_10 rfl (lv_at hl 0 rfl) ?_
    obtain ⟨v11, hv, hm⟩ := zbd hm
    refine z_getR X hI F_Home_16 hv d_Home_hut_11 ?_
    obtain ⟨v14, hv, hm⟩ := zbd hm
    obtain ⟨hq, hv⟩ := zcv_at hv
    refine z_ci hI (z_runV (As := []) (rest := []) X hI hl.1 (c_Huts_size l G K v11 h _ hv) C_Home_66 rfl hq (Nat.le_of_ble_eq_true rfl) ⟨Nat.le_of_ble_eq_true rfl, Nat.le_of_ble_eq_true rfl, Nat.zero_le _, Nat.zero_le _⟩ rfl d_Home_hut_14) (fun H locs hI => ?_)
    refine lv_bipush (v := (nI 6)) hx hb d_Home_hut_17 (by decide) ?_
    refine lv_icmp_lt (tgt := 25) hx hb d_Home_hut_19 (by decide) (fun hc19 => ?_) (fun hc19 => ?_)
    · replace hm := zif_t hc19 hm
      refine lv_aload_n hx hb d_Home_hut_25 rfl (lv_at hl 0 rfl) ?_
      obtain ⟨v26, hv, hm⟩ := zbd hm
      refine z_getR X hI F_Home_16 hv d_Home_hut_26 ?_
      refine lv_aload_n hx hb d_Home_hut_29 rfl (lv_at hl 0 rfl) ?_
      obtain ⟨v30, hv, hm⟩ := zbd hm
      refine z_getR X hI F_Home_9 hv d_Home_hut_30 ?_
      refine lv_aload_n hx hb d_Home_hut_33 rfl (lv_at hl 0 rfl) ?_
      obtain ⟨v34, hv, hm⟩ := zbd hm
      refine z_getI X hI F_Home_59 hv d_Home_hut_34 ?_
      obtain ⟨v37, h37, hv, hm⟩ := zb2_at hm
      obtain ⟨hq, hv⟩ := zcv_at hv
      refine z_ci hI (z_runV (As := [.ref (G.1 v30), .int v34]) (rest := []) X hI hl.1 (c_Huts_read l G K v26 v30 v34 h _ _ hv) C_Home_70 rfl hq (Nat.le_of_ble_eq_true rfl) ⟨Nat.le_of_ble_eq_true rfl, Nat.le_of_ble_eq_true rfl, Nat.zero_le _, Nat.zero_le _⟩ rfl d_Home_hut_37) (fun H locs hI => ?_)
      refine lv_istore_n (lv' := [(1, .int v37), (0, .ref (G.1 a0))]) hx hb d_Home_hut_40 rfl hl (by decide) rfl (fun ls hl => ?_)
      refine lv_aload_n hx hb d_Home_hut_41 rfl (lv_at hl 1 rfl) ?_
      refine lv_iconst (v := (nI 0)) hx hb d_Home_hut_42 (by decide) ?_
      obtain ⟨h43, hv, hm⟩ := zbd hm
      refine z_putI X hI P_Home_59 hv d_Home_hut_43 (fun H locs hI => ?_)
      refine lv_iload_n hx hb d_Home_hut_46 rfl (lv_at hl 0 rfl) ?_
      refine lv_iconst (v := (-1 : Int32)) hx hb d_Home_hut_47 (by decide) ?_
      refine lv_icmp_eq (tgt := 56) hx hb d_Home_hut_48 (by decide) (fun hc48 => ?_) (fun hc48 => ?_)
      · replace hm := zif_t hc48 hm
        refine lv_aload_n hx hb d_Home_hut_56 rfl (lv_at hl 1 rfl) ?_
        obtain ⟨v57, hv, hm⟩ := zbd hm
        refine z_getR X hI F_Home_37 hv d_Home_hut_57 ?_
        obtain ⟨h60, hv, hm⟩ := zbd hm
        obtain ⟨hq, hv⟩ := zcv_at hv
        refine z_cv hI (z_runV (As := []) (rest := []) X hI hl.1 (c_Orders_forget l G K v57 h43 _ hv) C_Home_74 rfl hq (Nat.le_of_ble_eq_true rfl) ⟨Nat.le_of_ble_eq_true rfl, Nat.le_of_ble_eq_true rfl, Nat.zero_le _, Nat.zero_le _⟩ rfl d_Home_hut_60) (fun H locs hI => ?_)
        refine lv_aload_n hx hb d_Home_hut_63 rfl (lv_at hl 1 rfl) ?_
        obtain ⟨v64, hv, hm⟩ := zbd hm
        refine z_getR X hI F_Home_41 hv d_Home_hut_64 ?_
        obtain ⟨h67, hv, hm⟩ := zbd hm
        obtain ⟨hq, hv⟩ := zcv_at hv
        refine z_cv hI (z_runV (As := []) (rest := []) X hI hl.1 (c_Orders_forget l G K v64 h60 _ hv) C_Home_74 rfl hq (Nat.le_of_ble_eq_true rfl) ⟨Nat.le_of_ble_eq_true rfl, Nat.le_of_ble_eq_true rfl, Nat.zero_le _, Nat.zero_le _⟩ rfl d_Home_hut_67) (fun H locs hI => ?_)
        refine lv_aload_n hx hb d_Home_hut_70 rfl (lv_at hl 1 rfl) ?_
        obtain ⟨v71, hv, hm⟩ := zbd hm
        refine z_getR X hI F_Home_16 hv d_Home_hut_71 ?_
        obtain ⟨v74, hv, hm⟩ := zbd hm
        obtain ⟨hq, hv⟩ := zcv_at hv
        refine z_ci hI (z_runV (As := []) (rest := []) X hI hl.1 (c_Huts_size l G K v71 h67 _ hv) C_Home_66 rfl hq (Nat.le_of_ble_eq_true rfl) ⟨Nat.le_of_ble_eq_true rfl, Nat.le_of_ble_eq_true rfl, Nat.zero_le _, Nat.zero_le _⟩ rfl d_Home_hut_74) (fun H locs hI => ?_)
        refine lv_iconst (v := (nI 1)) hx hb d_Home_hut_77 (by decide) ?_
        refine lv_isub hx hb d_Home_hut_78 ?_
        obtain ⟨rfl, rfl⟩ := zs2 hm
        exact z_iret X hI d_Home_hut_79
      · replace hm := zif_f hc48 hm
        refine lv_bipush (v := (-100 : Int32)) hx hb d_Home_hut_51 (by decide) ?_
        refine lv_iload_n hx hb d_Home_hut_53 rfl (lv_at hl 0 rfl) ?_
        refine lv_isub hx hb d_Home_hut_54 ?_
        obtain ⟨rfl, rfl⟩ := zs2 hm
        exact z_iret X hI d_Home_hut_55
    · replace hm := zif_f hc19 hm
      refine lv_bipush (v := (-3 : Int32)) hx hb d_Home_hut_22 (by decide) ?_
      obtain ⟨rfl, rfl⟩ := zs2 hm
      exact z_iret X hI d_Home_hut_24
  · replace hm := zif_f hc4 hm
    refine lv_bipush (v := (-5 : Int32)) hx hb d_Home_hut_7 (by decide) ?_
    obtain ⟨rfl, rfl⟩ := zs2 hm
    exact z_iret X hI d_Home_hut_9
set_option maxHeartbeats 4000000 in
set_option maxRecDepth 100000 in
theorem c_Home_hut (l : Launch) (G : zG) (K : Nat) (a0 : Nat) (h : zH) (r : Int32) (h' : zH) (hm : m_Home_hut a0 h = some (r, h')) : zMi l G K y_Home_hut prog_1_method_3_code 2 3 [.ref (G.1 a0)] h r h' := zMet (by decide +kernel) (Nat.le_of_ble_eq_true rfl) (fun p e s m below meth c ls X hI hl => r_Home_hut_0 X a0 h hm hI hl)
-- walk of AllHome$Huts.has
theorem d_Huts_has_0 : decode prog_3_method_3_code 0 = .ok (.iload_n 1, 1) := by decide +kernel
theorem d_Huts_has_1 : decode prog_3_method_3_code 1 = .ok (.ifCond .lt 15, 3) := by decide +kernel
theorem d_Huts_has_4 : decode prog_3_method_3_code 4 = .ok (.iload_n 1, 1) := by decide +kernel
theorem d_Huts_has_5 : decode prog_3_method_3_code 5 = .ok (.aload_n 0, 1) := by decide +kernel
theorem d_Huts_has_6 : decode prog_3_method_3_code 6 = .ok (.getfield 23, 3) := by decide +kernel
theorem d_Huts_has_9 : decode prog_3_method_3_code 9 = .ok (.if_icmp .ge 7, 3) := by decide +kernel
theorem d_Huts_has_12 : decode prog_3_method_3_code 12 = .ok (.iconst 1, 1) := by decide +kernel
theorem d_Huts_has_13 : decode prog_3_method_3_code 13 = .ok (.goto 4, 3) := by decide +kernel
theorem d_Huts_has_16 : decode prog_3_method_3_code 16 = .ok (.iconst 0, 1) := by decide +kernel
theorem d_Huts_has_17 : decode prog_3_method_3_code 17 = .ok (.ireturn, 1) := by decide +kernel
set_option maxHeartbeats 4000000 in
set_option maxRecDepth 100000 in
theorem r_Huts_has_0 {p : Program} {l : Launch} {e : Env} {s : State} {m : MethodId} {args : Array Value} {below : List Frame} {meth : Method} {c : Code} {G : zG} {K : Nat} (X : zX p s m args meth c "AllHome$Huts" prog_3_method_3_code 2 (some .boolean) G (zA G K)) {r : Int32} (a0 : Nat) (x1 : Int32) (h : zH) (hm : m_Huts_has a0 x1 h = some r) {H : Heap} {locs : List Loc} {ls : Array Slot} (hI : zI G K s (zA G K) H locs h) (hl : lv_has ls 2 [(0, .ref (G.1 a0)), (1, .int x1)]) : W p l e (zR 0) s m args below meth c H locs 0 0 (MQ below (zQi G K r h) args s 0 0 (zA G K)) (F0 m 0 ls []) := by
  obtain ⟨hx, hb, hml, hown, hts, hr, hlocks, hK, hST, hNs⟩ := id X
  unfold m_Huts_has at hm
  refine lv_iload_n hx hb d_Huts_has_0 rfl (lv_at hl 1 rfl) ?_
  refine lv_if_lt (tgt := 16) hx hb d_Huts_has_1 (by decide) (fun hc1 => ?_) (fun hc1 => ?_)
  · replace hm := zif_t hc1 hm
    refine lv_iconst (v := (nI 0)) hx hb d_Huts_has_16 (by decide) ?_
    obtain rfl := zs1 hm
    exact z_zret X hI (by decide) d_Huts_has_17
  · replace hm := zif_f hc1 hm
    refine lv_iload_n hx hb d_Huts_has_4 rfl (lv_at hl 1 rfl) ?_
    refine lv_aload_n hx hb d_Huts_has_5 rfl (lv_at hl 0 rfl) ?_
    obtain ⟨v6, hv, hm⟩ := zbd hm
    refine z_getI X hI F_Huts_23 hv d_Huts_has_6 ?_
    refine lv_icmp_ge (tgt := 16) hx hb d_Huts_has_9 (by decide) (fun hc9 => ?_) (fun hc9 => ?_)
    · replace hm := zif_t hc9 hm
      refine lv_iconst (v := (nI 0)) hx hb d_Huts_has_16 (by decide) ?_
      obtain rfl := zs1 hm
      exact z_zret X hI (by decide) d_Huts_has_17
    · replace hm := zif_f hc9 hm
      refine lv_iconst (v := (nI 1)) hx hb d_Huts_has_12 (by decide) ?_
      refine lv_goto (tgt := 17) hx hb d_Huts_has_13 (by decide) ?_
      obtain rfl := zs1 hm
      exact z_zret X hI (by decide) d_Huts_has_17
set_option maxHeartbeats 4000000 in
set_option maxRecDepth 100000 in
theorem c_Huts_has (l : Launch) (G : zG) (K : Nat) (a0 : Nat) (x1 : Int32) (h : zH) (r : Int32) (hm : m_Huts_has a0 x1 h = some r) : zMz l G K y_Huts_has prog_3_method_3_code 2 0 [.ref (G.1 a0), .int x1] h r h := zMet (by decide +kernel) (Nat.le_of_ble_eq_true rfl) (fun p e s m below meth c ls X hI hl => r_Huts_has_0 X a0 x1 h hm hI hl)
-- walk of AllHome$Huts.linesOf
theorem d_Huts_linesOf_0 : decode prog_3_method_4_code 0 = .ok (.aload_n 0, 1) := by decide +kernel
theorem d_Huts_linesOf_1 : decode prog_3_method_4_code 1 = .ok (.iload_n 1, 1) := by decide +kernel
theorem d_Huts_linesOf_2 : decode prog_3_method_4_code 2 = .ok (.invokevirtual 27, 3) := by decide +kernel
theorem d_Huts_linesOf_5 : decode prog_3_method_4_code 5 = .ok (.ifCond .eq 12, 3) := by decide +kernel
theorem d_Huts_linesOf_8 : decode prog_3_method_4_code 8 = .ok (.aload_n 0, 1) := by decide +kernel
theorem d_Huts_linesOf_9 : decode prog_3_method_4_code 9 = .ok (.getfield 19, 3) := by decide +kernel
theorem d_Huts_linesOf_12 : decode prog_3_method_4_code 12 = .ok (.iload_n 1, 1) := by decide +kernel
theorem d_Huts_linesOf_13 : decode prog_3_method_4_code 13 = .ok (.iaload, 1) := by decide +kernel
theorem d_Huts_linesOf_14 : decode prog_3_method_4_code 14 = .ok (.goto 4, 3) := by decide +kernel
theorem d_Huts_linesOf_17 : decode prog_3_method_4_code 17 = .ok (.iconst 0, 1) := by decide +kernel
theorem d_Huts_linesOf_18 : decode prog_3_method_4_code 18 = .ok (.ireturn, 1) := by decide +kernel
set_option maxHeartbeats 4000000 in
set_option maxRecDepth 100000 in
theorem r_Huts_linesOf_0 {p : Program} {l : Launch} {e : Env} {s : State} {m : MethodId} {args : Array Value} {below : List Frame} {meth : Method} {c : Code} {G : zG} {K : Nat} (X : zX p s m args meth c "AllHome$Huts" prog_3_method_4_code 2 (some .int) G (zA G K)) {r : Int32} (a0 : Nat) (x1 : Int32) (h : zH) (hm : m_Huts_linesOf a0 x1 h = some r) {H : Heap} {locs : List Loc} {ls : Array Slot} (hI : zI G K s (zA G K) H locs h) (hl : lv_has ls 2 [(0, .ref (G.1 a0)), (1, .int x1)]) : W p l e (zR 1) s m args below meth c H locs 0 0 (MQ below (zQi G K r h) args s 0 0 (zA G K)) (F0 m 0 ls []) := by
  obtain ⟨hx, hb, hml, hown, hts, hr, hlocks, hK, hST, hNs⟩ := id X
  unfold m_Huts_linesOf at hm
  refine lv_aload_n hx hb d_Huts_linesOf_0 rfl (lv_at hl 0 rfl) ?_
  refine lv_iload_n hx hb d_Huts_linesOf_1 rfl (lv_at hl 1 rfl) ?_
  obtain ⟨v2, hv, hm⟩ := zbd hm
  obtain ⟨hq, hv⟩ := zcv_at hv
  refine z_ci hI (z_runV (As := [.int x1]) (rest := []) X hI hl.1 (c_Huts_has l G K a0 x1 h _ hv) C_Huts_27 rfl hq (Nat.le_of_ble_eq_true rfl) ⟨Nat.le_of_ble_eq_true rfl, Nat.le_of_ble_eq_true rfl, Nat.zero_le _, Nat.zero_le _⟩ rfl d_Huts_linesOf_2) (fun H locs hI => ?_)
  refine lv_if_eq (tgt := 17) hx hb d_Huts_linesOf_5 (by decide) (fun hc5 => ?_) (fun hc5 => ?_)
  · replace hm := zif_t hc5 hm
    refine lv_iconst (v := (nI 0)) hx hb d_Huts_linesOf_17 (by decide) ?_
    obtain rfl := zs1 hm
    exact z_iret X hI d_Huts_linesOf_18
  · replace hm := zif_f hc5 hm
    refine lv_aload_n hx hb d_Huts_linesOf_8 rfl (lv_at hl 0 rfl) ?_
    obtain ⟨v9, hv, hm⟩ := zbd hm
    refine z_getR X hI F_Huts_19 hv d_Huts_linesOf_9 ?_
    refine lv_iload_n hx hb d_Huts_linesOf_12 rfl (lv_at hl 1 rfl) ?_
    obtain ⟨v13, hv, hm⟩ := zbd hm
    refine z_iald X hI hv d_Huts_linesOf_13 ?_
    refine lv_goto (tgt := 18) hx hb d_Huts_linesOf_14 (by decide) ?_
    obtain rfl := zs1 hm
    exact z_iret X hI d_Huts_linesOf_18
set_option maxHeartbeats 4000000 in
set_option maxRecDepth 100000 in
theorem c_Huts_linesOf (l : Launch) (G : zG) (K : Nat) (a0 : Nat) (x1 : Int32) (h : zH) (r : Int32) (hm : m_Huts_linesOf a0 x1 h = some r) : zMi l G K y_Huts_linesOf prog_3_method_4_code 2 1 [.ref (G.1 a0), .int x1] h r h := zMet (by decide +kernel) (Nat.le_of_ble_eq_true rfl) (fun p e s m below meth c ls X hI hl => r_Huts_linesOf_0 X a0 x1 h hm hI hl)
-- walk of AllHome$Huts.wordsOf
theorem d_Huts_wordsOf_0 : decode prog_3_method_5_code 0 = .ok (.aload_n 0, 1) := by decide +kernel
theorem d_Huts_wordsOf_1 : decode prog_3_method_5_code 1 = .ok (.iload_n 1, 1) := by decide +kernel
theorem d_Huts_wordsOf_2 : decode prog_3_method_5_code 2 = .ok (.invokevirtual 27, 3) := by decide +kernel
theorem d_Huts_wordsOf_5 : decode prog_3_method_5_code 5 = .ok (.ifCond .eq 17, 3) := by decide +kernel
theorem d_Huts_wordsOf_8 : decode prog_3_method_5_code 8 = .ok (.iload_n 2, 1) := by decide +kernel
theorem d_Huts_wordsOf_9 : decode prog_3_method_5_code 9 = .ok (.ifCond .lt 13, 3) := by decide +kernel
theorem d_Huts_wordsOf_12 : decode prog_3_method_5_code 12 = .ok (.iload_n 2, 1) := by decide +kernel
theorem d_Huts_wordsOf_13 : decode prog_3_method_5_code 13 = .ok (.aload_n 0, 1) := by decide +kernel
theorem d_Huts_wordsOf_14 : decode prog_3_method_5_code 14 = .ok (.getfield 19, 3) := by decide +kernel
theorem d_Huts_wordsOf_17 : decode prog_3_method_5_code 17 = .ok (.iload_n 1, 1) := by decide +kernel
theorem d_Huts_wordsOf_18 : decode prog_3_method_5_code 18 = .ok (.iaload, 1) := by decide +kernel
theorem d_Huts_wordsOf_19 : decode prog_3_method_5_code 19 = .ok (.if_icmp .lt 5, 3) := by decide +kernel
theorem d_Huts_wordsOf_22 : decode prog_3_method_5_code 22 = .ok (.iconst 0, 1) := by decide +kernel
theorem d_Huts_wordsOf_23 : decode prog_3_method_5_code 23 = .ok (.ireturn, 1) := by decide +kernel
theorem d_Huts_wordsOf_24 : decode prog_3_method_5_code 24 = .ok (.aload_n 0, 1) := by decide +kernel
theorem d_Huts_wordsOf_25 : decode prog_3_method_5_code 25 = .ok (.getfield 16, 3) := by decide +kernel
theorem d_Huts_wordsOf_28 : decode prog_3_method_5_code 28 = .ok (.iload_n 1, 1) := by decide +kernel
theorem d_Huts_wordsOf_29 : decode prog_3_method_5_code 29 = .ok (.aaload, 1) := by decide +kernel
theorem d_Huts_wordsOf_30 : decode prog_3_method_5_code 30 = .ok (.iload_n 2, 1) := by decide +kernel
theorem d_Huts_wordsOf_31 : decode prog_3_method_5_code 31 = .ok (.iconst 1, 1) := by decide +kernel
theorem d_Huts_wordsOf_32 : decode prog_3_method_5_code 32 = .ok (.iadd, 1) := by decide +kernel
theorem d_Huts_wordsOf_33 : decode prog_3_method_5_code 33 = .ok (.iaload, 1) := by decide +kernel
theorem d_Huts_wordsOf_34 : decode prog_3_method_5_code 34 = .ok (.aload_n 0, 1) := by decide +kernel
theorem d_Huts_wordsOf_35 : decode prog_3_method_5_code 35 = .ok (.getfield 16, 3) := by decide +kernel
theorem d_Huts_wordsOf_38 : decode prog_3_method_5_code 38 = .ok (.iload_n 1, 1) := by decide +kernel
theorem d_Huts_wordsOf_39 : decode prog_3_method_5_code 39 = .ok (.aaload, 1) := by decide +kernel
theorem d_Huts_wordsOf_40 : decode prog_3_method_5_code 40 = .ok (.iload_n 2, 1) := by decide +kernel
theorem d_Huts_wordsOf_41 : decode prog_3_method_5_code 41 = .ok (.iaload, 1) := by decide +kernel
theorem d_Huts_wordsOf_42 : decode prog_3_method_5_code 42 = .ok (.isub, 1) := by decide +kernel
theorem d_Huts_wordsOf_43 : decode prog_3_method_5_code 43 = .ok (.ireturn, 1) := by decide +kernel
set_option maxHeartbeats 4000000 in
set_option maxRecDepth 100000 in
theorem r_Huts_wordsOf_0 {p : Program} {l : Launch} {e : Env} {s : State} {m : MethodId} {args : Array Value} {below : List Frame} {meth : Method} {c : Code} {G : zG} {K : Nat} (X : zX p s m args meth c "AllHome$Huts" prog_3_method_5_code 3 (some .int) G (zA G K)) {r : Int32} (a0 : Nat) (x1 : Int32) (x2 : Int32) (h : zH) (hm : m_Huts_wordsOf a0 x1 x2 h = some r) {H : Heap} {locs : List Loc} {ls : Array Slot} (hI : zI G K s (zA G K) H locs h) (hl : lv_has ls 3 [(0, .ref (G.1 a0)), (1, .int x1), (2, .int x2)]) : W p l e (zR 1) s m args below meth c H locs 0 0 (MQ below (zQi G K r h) args s 0 0 (zA G K)) (F0 m 0 ls []) := by
  obtain ⟨hx, hb, hml, hown, hts, hr, hlocks, hK, hST, hNs⟩ := id X
  unfold m_Huts_wordsOf at hm
  refine lv_aload_n hx hb d_Huts_wordsOf_0 rfl (lv_at hl 0 rfl) ?_
  refine lv_iload_n hx hb d_Huts_wordsOf_1 rfl (lv_at hl 1 rfl) ?_
  obtain ⟨v2, hv, hm⟩ := zbd hm
  obtain ⟨hq, hv⟩ := zcv_at hv
  refine z_ci hI (z_runV (As := [.int x1]) (rest := []) X hI hl.1 (c_Huts_has l G K a0 x1 h _ hv) C_Huts_27 rfl hq (Nat.le_of_ble_eq_true rfl) ⟨Nat.le_of_ble_eq_true rfl, Nat.le_of_ble_eq_true rfl, Nat.zero_le _, Nat.zero_le _⟩ rfl d_Huts_wordsOf_2) (fun H locs hI => ?_)
  refine lv_if_eq (tgt := 22) hx hb d_Huts_wordsOf_5 (by decide) (fun hc5 => ?_) (fun hc5 => ?_)
  · replace hm := zif_t hc5 hm
    refine lv_iconst (v := (nI 0)) hx hb d_Huts_wordsOf_22 (by decide) ?_
    obtain rfl := zs1 hm
    exact z_iret X hI d_Huts_wordsOf_23
  · replace hm := zif_f hc5 hm
    refine lv_iload_n hx hb d_Huts_wordsOf_8 rfl (lv_at hl 2 rfl) ?_
    refine lv_if_lt (tgt := 22) hx hb d_Huts_wordsOf_9 (by decide) (fun hc9 => ?_) (fun hc9 => ?_)
    · replace hm := zif_t hc9 hm
      refine lv_iconst (v := (nI 0)) hx hb d_Huts_wordsOf_22 (by decide) ?_
      obtain rfl := zs1 hm
      exact z_iret X hI d_Huts_wordsOf_23
    · replace hm := zif_f hc9 hm
      refine lv_iload_n hx hb d_Huts_wordsOf_12 rfl (lv_at hl 2 rfl) ?_
      refine lv_aload_n hx hb d_Huts_wordsOf_13 rfl (lv_at hl 0 rfl) ?_
      obtain ⟨v14, hv, hm⟩ := zbd hm
      refine z_getR X hI F_Huts_19 hv d_Huts_wordsOf_14 ?_
      refine lv_iload_n hx hb d_Huts_wordsOf_17 rfl (lv_at hl 1 rfl) ?_
      obtain ⟨v18, hv, hm⟩ := zbd hm
      refine z_iald X hI hv d_Huts_wordsOf_18 ?_
      refine lv_icmp_lt (tgt := 24) hx hb d_Huts_wordsOf_19 (by decide) (fun hc19 => ?_) (fun hc19 => ?_)
      · replace hm := zif_t hc19 hm
        refine lv_aload_n hx hb d_Huts_wordsOf_24 rfl (lv_at hl 0 rfl) ?_
        obtain ⟨v25, hv, hm⟩ := zbd hm
        refine z_getR X hI F_Huts_16 hv d_Huts_wordsOf_25 ?_
        refine lv_iload_n hx hb d_Huts_wordsOf_28 rfl (lv_at hl 1 rfl) ?_
        obtain ⟨v29, hv, hm⟩ := zbd hm
        refine z_aald X hI 5 (.array .int) rfl rfl hv d_Huts_wordsOf_29 ?_
        refine lv_iload_n hx hb d_Huts_wordsOf_30 rfl (lv_at hl 2 rfl) ?_
        refine lv_iconst (v := (nI 1)) hx hb d_Huts_wordsOf_31 (by decide) ?_
        refine lv_iadd hx hb d_Huts_wordsOf_32 ?_
        obtain ⟨v33, hv, hm⟩ := zbd hm
        refine z_iald X hI hv d_Huts_wordsOf_33 ?_
        refine lv_aload_n hx hb d_Huts_wordsOf_34 rfl (lv_at hl 0 rfl) ?_
        obtain ⟨v35, hv, hm⟩ := zbd hm
        refine z_getR X hI F_Huts_16 hv d_Huts_wordsOf_35 ?_
        refine lv_iload_n hx hb d_Huts_wordsOf_38 rfl (lv_at hl 1 rfl) ?_
        obtain ⟨v39, hv, hm⟩ := zbd hm
        refine z_aald X hI 5 (.array .int) rfl rfl hv d_Huts_wordsOf_39 ?_
        refine lv_iload_n hx hb d_Huts_wordsOf_40 rfl (lv_at hl 2 rfl) ?_
        obtain ⟨v41, hv, hm⟩ := zbd hm
        refine z_iald X hI hv d_Huts_wordsOf_41 ?_
        refine lv_isub hx hb d_Huts_wordsOf_42 ?_
        obtain rfl := zs1 hm
        exact z_iret X hI d_Huts_wordsOf_43
      · replace hm := zif_f hc19 hm
        refine lv_iconst (v := (nI 0)) hx hb d_Huts_wordsOf_22 (by decide) ?_
        obtain rfl := zs1 hm
        exact z_iret X hI d_Huts_wordsOf_23
set_option maxHeartbeats 4000000 in
set_option maxRecDepth 100000 in
theorem c_Huts_wordsOf (l : Launch) (G : zG) (K : Nat) (a0 : Nat) (x1 : Int32) (x2 : Int32) (h : zH) (r : Int32) (hm : m_Huts_wordsOf a0 x1 x2 h = some r) : zMi l G K y_Huts_wordsOf prog_3_method_5_code 3 1 [.ref (G.1 a0), .int x1, .int x2] h r h := zMet (by decide +kernel) (Nat.le_of_ble_eq_true rfl) (fun p e s m below meth c ls X hI hl => r_Huts_wordsOf_0 X a0 x1 x2 h hm hI hl)
-- walk of AllHome.line
theorem d_Home_line_0 : decode prog_1_method_4_code 0 = .ok (.aload_n 0, 1) := by decide +kernel
theorem d_Home_line_1 : decode prog_1_method_4_code 1 = .ok (.getfield 16, 3) := by decide +kernel
theorem d_Home_line_4 : decode prog_1_method_4_code 4 = .ok (.iload_n 1, 1) := by decide +kernel
theorem d_Home_line_5 : decode prog_1_method_4_code 5 = .ok (.invokevirtual 77, 3) := by decide +kernel
theorem d_Home_line_8 : decode prog_1_method_4_code 8 = .ok (.ifCond .eq 20, 3) := by decide +kernel
theorem d_Home_line_11 : decode prog_1_method_4_code 11 = .ok (.iload_n 2, 1) := by decide +kernel
theorem d_Home_line_12 : decode prog_1_method_4_code 12 = .ok (.iconst (-1), 1) := by decide +kernel
theorem d_Home_line_13 : decode prog_1_method_4_code 13 = .ok (.if_icmp .lt 15, 3) := by decide +kernel
theorem d_Home_line_16 : decode prog_1_method_4_code 16 = .ok (.iload_n 2, 1) := by decide +kernel
theorem d_Home_line_17 : decode prog_1_method_4_code 17 = .ok (.aload_n 0, 1) := by decide +kernel
theorem d_Home_line_18 : decode prog_1_method_4_code 18 = .ok (.getfield 16, 3) := by decide +kernel
theorem d_Home_line_21 : decode prog_1_method_4_code 21 = .ok (.iload_n 1, 1) := by decide +kernel
theorem d_Home_line_22 : decode prog_1_method_4_code 22 = .ok (.invokevirtual 81, 3) := by decide +kernel
theorem d_Home_line_25 : decode prog_1_method_4_code 25 = .ok (.if_icmp .lt 5, 3) := by decide +kernel
theorem d_Home_line_28 : decode prog_1_method_4_code 28 = .ok (.iconst (-1), 1) := by decide +kernel
theorem d_Home_line_29 : decode prog_1_method_4_code 29 = .ok (.ireturn, 1) := by decide +kernel
theorem d_Home_line_30 : decode prog_1_method_4_code 30 = .ok (.iload_n 2, 1) := by decide +kernel
theorem d_Home_line_31 : decode prog_1_method_4_code 31 = .ok (.iconst (-1), 1) := by decide +kernel
theorem d_Home_line_32 : decode prog_1_method_4_code 32 = .ok (.if_icmp .ne 14, 3) := by decide +kernel
theorem d_Home_line_35 : decode prog_1_method_4_code 35 = .ok (.aload_n 0, 1) := by decide +kernel
theorem d_Home_line_36 : decode prog_1_method_4_code 36 = .ok (.getfield 16, 3) := by decide +kernel
theorem d_Home_line_39 : decode prog_1_method_4_code 39 = .ok (.iload_n 1, 1) := by decide +kernel
theorem d_Home_line_40 : decode prog_1_method_4_code 40 = .ok (.invokevirtual 81, 3) := by decide +kernel
theorem d_Home_line_43 : decode prog_1_method_4_code 43 = .ok (.goto 12, 3) := by decide +kernel
theorem d_Home_line_46 : decode prog_1_method_4_code 46 = .ok (.aload_n 0, 1) := by decide +kernel
theorem d_Home_line_47 : decode prog_1_method_4_code 47 = .ok (.getfield 16, 3) := by decide +kernel
theorem d_Home_line_50 : decode prog_1_method_4_code 50 = .ok (.iload_n 1, 1) := by decide +kernel
theorem d_Home_line_51 : decode prog_1_method_4_code 51 = .ok (.iload_n 2, 1) := by decide +kernel
theorem d_Home_line_52 : decode prog_1_method_4_code 52 = .ok (.invokevirtual 85, 3) := by decide +kernel
theorem d_Home_line_55 : decode prog_1_method_4_code 55 = .ok (.ireturn, 1) := by decide +kernel
set_option maxHeartbeats 4000000 in
set_option maxRecDepth 100000 in
theorem r_Home_line_0 {p : Program} {l : Launch} {e : Env} {s : State} {m : MethodId} {args : Array Value} {below : List Frame} {meth : Method} {c : Code} {G : zG} {K : Nat} (X : zX p s m args meth c "AllHome" prog_1_method_4_code 3 (some .int) G (zA G K)) {r : Int32} (a0 : Nat) (x1 : Int32) (x2 : Int32) (h : zH) (hm : m_Home_line a0 x1 x2 h = some r) {H : Heap} {locs : List Loc} {ls : Array Slot} (hI : zI G K s (zA G K) H locs h) (hl : lv_has ls 3 [(0, .ref (G.1 a0)), (1, .int x1), (2, .int x2)]) : W p l e (zR 2) s m args below meth c H locs 0 0 (MQ below (zQi G K r h) args s 0 0 (zA G K)) (F0 m 0 ls []) := by
  obtain ⟨hx, hb, hml, hown, hts, hr, hlocks, hK, hST, hNs⟩ := id X
  unfold m_Home_line at hm
  refine lv_aload_n hx hb d_Home_line_0 rfl (lv_at hl 0 rfl) ?_
  obtain ⟨v1, hv, hm⟩ := zbd hm
  refine z_getR X hI F_Home_16 hv d_Home_line_1 ?_
  refine lv_iload_n hx hb d_Home_line_4 rfl (lv_at hl 1 rfl) ?_
  obtain ⟨v5, hv, hm⟩ := zbd hm
  obtain ⟨hq, hv⟩ := zcv_at hv
  refine z_ci hI (z_runV (As := [.int x1]) (rest := []) X hI hl.1 (c_Huts_has l G K v1 x1 h _ hv) C_Home_77 rfl hq (Nat.le_of_ble_eq_true rfl) ⟨Nat.le_of_ble_eq_true rfl, Nat.le_of_ble_eq_true rfl, Nat.zero_le _, Nat.zero_le _⟩ rfl d_Home_line_5) (fun H locs hI => ?_)
  refine lv_if_eq (tgt := 28) hx hb d_Home_line_8 (by decide) (fun hc8 => ?_) (fun hc8 => ?_)
  · replace hm := zif_t hc8 hm
    refine lv_iconst (v := (-1 : Int32)) hx hb d_Home_line_28 (by decide) ?_
    obtain rfl := zs1 hm
    exact z_iret X hI d_Home_line_29
  · replace hm := zif_f hc8 hm
    refine lv_iload_n hx hb d_Home_line_11 rfl (lv_at hl 2 rfl) ?_
    refine lv_iconst (v := (-1 : Int32)) hx hb d_Home_line_12 (by decide) ?_
    refine lv_icmp_lt (tgt := 28) hx hb d_Home_line_13 (by decide) (fun hc13 => ?_) (fun hc13 => ?_)
    · replace hm := zif_t hc13 hm
      refine lv_iconst (v := (-1 : Int32)) hx hb d_Home_line_28 (by decide) ?_
      obtain rfl := zs1 hm
      exact z_iret X hI d_Home_line_29
    · replace hm := zif_f hc13 hm
      refine lv_iload_n hx hb d_Home_line_16 rfl (lv_at hl 2 rfl) ?_
      refine lv_aload_n hx hb d_Home_line_17 rfl (lv_at hl 0 rfl) ?_
      obtain ⟨v18, hv, hm⟩ := zbd hm
      refine z_getR X hI F_Home_16 hv d_Home_line_18 ?_
      refine lv_iload_n hx hb d_Home_line_21 rfl (lv_at hl 1 rfl) ?_
      obtain ⟨v22, hv, hm⟩ := zbd hm
      obtain ⟨hq, hv⟩ := zcv_at hv
      refine z_ci hI (z_runV (As := [.int x1]) (rest := [.int x2]) X hI hl.1 (c_Huts_linesOf l G K v18 x1 h _ hv) C_Home_81 rfl hq (Nat.le_of_ble_eq_true rfl) ⟨Nat.le_of_ble_eq_true rfl, Nat.le_of_ble_eq_true rfl, Nat.zero_le _, Nat.zero_le _⟩ rfl d_Home_line_22) (fun H locs hI => ?_)
      refine lv_icmp_lt (tgt := 30) hx hb d_Home_line_25 (by decide) (fun hc25 => ?_) (fun hc25 => ?_)
      · replace hm := zif_t hc25 hm
        refine lv_iload_n hx hb d_Home_line_30 rfl (lv_at hl 2 rfl) ?_
        refine lv_iconst (v := (-1 : Int32)) hx hb d_Home_line_31 (by decide) ?_
        refine lv_icmp_ne (tgt := 46) hx hb d_Home_line_32 (by decide) (fun hc32 => ?_) (fun hc32 => ?_)
        · replace hm := zif_f hc32 hm
          refine lv_aload_n hx hb d_Home_line_46 rfl (lv_at hl 0 rfl) ?_
          obtain ⟨v47, hv, hm⟩ := zbd hm
          refine z_getR X hI F_Home_16 hv d_Home_line_47 ?_
          refine lv_iload_n hx hb d_Home_line_50 rfl (lv_at hl 1 rfl) ?_
          refine lv_iload_n hx hb d_Home_line_51 rfl (lv_at hl 2 rfl) ?_
          obtain ⟨v52, hv, hm⟩ := zbd hm
          obtain ⟨hq, hv⟩ := zcv_at hv
          refine z_ci hI (z_runV (As := [.int x1, .int x2]) (rest := []) X hI hl.1 (c_Huts_wordsOf l G K v47 x1 x2 h _ hv) C_Home_85 rfl hq (Nat.le_of_ble_eq_true rfl) ⟨Nat.le_of_ble_eq_true rfl, Nat.le_of_ble_eq_true rfl, Nat.zero_le _, Nat.zero_le _⟩ rfl d_Home_line_52) (fun H locs hI => ?_)
          obtain rfl := zs1 hm
          exact z_iret X hI d_Home_line_55
        · replace hm := zif_t hc32 hm
          refine lv_aload_n hx hb d_Home_line_35 rfl (lv_at hl 0 rfl) ?_
          obtain ⟨v36, hv, hm⟩ := zbd hm
          refine z_getR X hI F_Home_16 hv d_Home_line_36 ?_
          refine lv_iload_n hx hb d_Home_line_39 rfl (lv_at hl 1 rfl) ?_
          obtain ⟨v40, hv, hm⟩ := zbd hm
          obtain ⟨hq, hv⟩ := zcv_at hv
          refine z_ci hI (z_runV (As := [.int x1]) (rest := []) X hI hl.1 (c_Huts_linesOf l G K v36 x1 h _ hv) C_Home_81 rfl hq (Nat.le_of_ble_eq_true rfl) ⟨Nat.le_of_ble_eq_true rfl, Nat.le_of_ble_eq_true rfl, Nat.zero_le _, Nat.zero_le _⟩ rfl d_Home_line_40) (fun H locs hI => ?_)
          refine lv_goto (tgt := 55) hx hb d_Home_line_43 (by decide) ?_
          obtain rfl := zs1 hm
          exact z_iret X hI d_Home_line_55
      · replace hm := zif_f hc25 hm
        refine lv_iconst (v := (-1 : Int32)) hx hb d_Home_line_28 (by decide) ?_
        obtain rfl := zs1 hm
        exact z_iret X hI d_Home_line_29
set_option maxHeartbeats 4000000 in
set_option maxRecDepth 100000 in
theorem c_Home_line (l : Launch) (G : zG) (K : Nat) (a0 : Nat) (x1 : Int32) (x2 : Int32) (h : zH) (r : Int32) (hm : m_Home_line a0 x1 x2 h = some r) : zMi l G K y_Home_line prog_1_method_4_code 3 2 [.ref (G.1 a0), .int x1, .int x2] h r h := zMet (by decide +kernel) (Nat.le_of_ble_eq_true rfl) (fun p e s m below meth c ls X hI hl => r_Home_line_0 X a0 x1 x2 h hm hI hl)
-- walk of AllHome$Huts.goal
theorem d_Huts_goal_0 : decode prog_3_method_6_code 0 = .ok (.aload_n 0, 1) := by decide +kernel
theorem d_Huts_goal_1 : decode prog_3_method_6_code 1 = .ok (.iload_n 1, 1) := by decide +kernel
theorem d_Huts_goal_2 : decode prog_3_method_6_code 2 = .ok (.invokevirtual 27, 3) := by decide +kernel
theorem d_Huts_goal_5 : decode prog_3_method_6_code 5 = .ok (.ifCond .eq 17, 3) := by decide +kernel
theorem d_Huts_goal_8 : decode prog_3_method_6_code 8 = .ok (.iload_n 2, 1) := by decide +kernel
theorem d_Huts_goal_9 : decode prog_3_method_6_code 9 = .ok (.ifCond .lt 13, 3) := by decide +kernel
theorem d_Huts_goal_12 : decode prog_3_method_6_code 12 = .ok (.iload_n 2, 1) := by decide +kernel
theorem d_Huts_goal_13 : decode prog_3_method_6_code 13 = .ok (.aload_n 0, 1) := by decide +kernel
theorem d_Huts_goal_14 : decode prog_3_method_6_code 14 = .ok (.getfield 19, 3) := by decide +kernel
theorem d_Huts_goal_17 : decode prog_3_method_6_code 17 = .ok (.iload_n 1, 1) := by decide +kernel
theorem d_Huts_goal_18 : decode prog_3_method_6_code 18 = .ok (.iaload, 1) := by decide +kernel
theorem d_Huts_goal_19 : decode prog_3_method_6_code 19 = .ok (.if_icmp .lt 5, 3) := by decide +kernel
theorem d_Huts_goal_22 : decode prog_3_method_6_code 22 = .ok (.iconst (-1), 1) := by decide +kernel
theorem d_Huts_goal_23 : decode prog_3_method_6_code 23 = .ok (.ireturn, 1) := by decide +kernel
theorem d_Huts_goal_24 : decode prog_3_method_6_code 24 = .ok (.aload_n 0, 1) := by decide +kernel
theorem d_Huts_goal_25 : decode prog_3_method_6_code 25 = .ok (.getfield 16, 3) := by decide +kernel
theorem d_Huts_goal_28 : decode prog_3_method_6_code 28 = .ok (.iload_n 1, 1) := by decide +kernel
theorem d_Huts_goal_29 : decode prog_3_method_6_code 29 = .ok (.aaload, 1) := by decide +kernel
theorem d_Huts_goal_30 : decode prog_3_method_6_code 30 = .ok (.iload_n 2, 1) := by decide +kernel
theorem d_Huts_goal_31 : decode prog_3_method_6_code 31 = .ok (.iconst 1, 1) := by decide +kernel
theorem d_Huts_goal_32 : decode prog_3_method_6_code 32 = .ok (.iadd, 1) := by decide +kernel
theorem d_Huts_goal_33 : decode prog_3_method_6_code 33 = .ok (.iaload, 1) := by decide +kernel
theorem d_Huts_goal_34 : decode prog_3_method_6_code 34 = .ok (.aload_n 0, 1) := by decide +kernel
theorem d_Huts_goal_35 : decode prog_3_method_6_code 35 = .ok (.getfield 16, 3) := by decide +kernel
theorem d_Huts_goal_38 : decode prog_3_method_6_code 38 = .ok (.iload_n 1, 1) := by decide +kernel
theorem d_Huts_goal_39 : decode prog_3_method_6_code 39 = .ok (.aaload, 1) := by decide +kernel
theorem d_Huts_goal_40 : decode prog_3_method_6_code 40 = .ok (.iload_n 2, 1) := by decide +kernel
theorem d_Huts_goal_41 : decode prog_3_method_6_code 41 = .ok (.iaload, 1) := by decide +kernel
theorem d_Huts_goal_42 : decode prog_3_method_6_code 42 = .ok (.isub, 1) := by decide +kernel
theorem d_Huts_goal_43 : decode prog_3_method_6_code 43 = .ok (.istore 4, 2) := by decide +kernel
theorem d_Huts_goal_45 : decode prog_3_method_6_code 45 = .ok (.iload_n 3, 1) := by decide +kernel
theorem d_Huts_goal_46 : decode prog_3_method_6_code 46 = .ok (.ifCond .lt 29, 3) := by decide +kernel
theorem d_Huts_goal_49 : decode prog_3_method_6_code 49 = .ok (.iload_n 3, 1) := by decide +kernel
theorem d_Huts_goal_50 : decode prog_3_method_6_code 50 = .ok (.iload 4, 2) := by decide +kernel
theorem d_Huts_goal_52 : decode prog_3_method_6_code 52 = .ok (.if_icmp .ge 23, 3) := by decide +kernel
theorem d_Huts_goal_55 : decode prog_3_method_6_code 55 = .ok (.aload_n 0, 1) := by decide +kernel
theorem d_Huts_goal_56 : decode prog_3_method_6_code 56 = .ok (.getfield 13, 3) := by decide +kernel
theorem d_Huts_goal_59 : decode prog_3_method_6_code 59 = .ok (.iload_n 1, 1) := by decide +kernel
theorem d_Huts_goal_60 : decode prog_3_method_6_code 60 = .ok (.aaload, 1) := by decide +kernel
theorem d_Huts_goal_61 : decode prog_3_method_6_code 61 = .ok (.aload_n 0, 1) := by decide +kernel
theorem d_Huts_goal_62 : decode prog_3_method_6_code 62 = .ok (.getfield 16, 3) := by decide +kernel
theorem d_Huts_goal_65 : decode prog_3_method_6_code 65 = .ok (.iload_n 1, 1) := by decide +kernel
theorem d_Huts_goal_66 : decode prog_3_method_6_code 66 = .ok (.aaload, 1) := by decide +kernel
theorem d_Huts_goal_67 : decode prog_3_method_6_code 67 = .ok (.iload_n 2, 1) := by decide +kernel
theorem d_Huts_goal_68 : decode prog_3_method_6_code 68 = .ok (.iaload, 1) := by decide +kernel
theorem d_Huts_goal_69 : decode prog_3_method_6_code 69 = .ok (.iload_n 3, 1) := by decide +kernel
theorem d_Huts_goal_70 : decode prog_3_method_6_code 70 = .ok (.iadd, 1) := by decide +kernel
theorem d_Huts_goal_71 : decode prog_3_method_6_code 71 = .ok (.iaload, 1) := by decide +kernel
theorem d_Huts_goal_72 : decode prog_3_method_6_code 72 = .ok (.goto 4, 3) := by decide +kernel
theorem d_Huts_goal_75 : decode prog_3_method_6_code 75 = .ok (.iconst (-1), 1) := by decide +kernel
theorem d_Huts_goal_76 : decode prog_3_method_6_code 76 = .ok (.ireturn, 1) := by decide +kernel
set_option maxHeartbeats 4000000 in
set_option maxRecDepth 100000 in
theorem r_Huts_goal_0 {p : Program} {l : Launch} {e : Env} {s : State} {m : MethodId} {args : Array Value} {below : List Frame} {meth : Method} {c : Code} {G : zG} {K : Nat} (X : zX p s m args meth c "AllHome$Huts" prog_3_method_6_code 5 (some .int) G (zA G K)) {r : Int32} (a0 : Nat) (x1 : Int32) (x2 : Int32) (x3 : Int32) (h : zH) (hm : m_Huts_goal a0 x1 x2 x3 h = some r) {H : Heap} {locs : List Loc} {ls : Array Slot} (hI : zI G K s (zA G K) H locs h) (hl : lv_has ls 5 [(0, .ref (G.1 a0)), (1, .int x1), (2, .int x2), (3, .int x3)]) : W p l e (zR 1) s m args below meth c H locs 0 0 (MQ below (zQi G K r h) args s 0 0 (zA G K)) (F0 m 0 ls []) := by
  obtain ⟨hx, hb, hml, hown, hts, hr, hlocks, hK, hST, hNs⟩ := id X
  unfold m_Huts_goal at hm
  refine lv_aload_n hx hb d_Huts_goal_0 rfl (lv_at hl 0 rfl) ?_
  refine lv_iload_n hx hb d_Huts_goal_1 rfl (lv_at hl 1 rfl) ?_
  obtain ⟨v2, hv, hm⟩ := zbd hm
  obtain ⟨hq, hv⟩ := zcv_at hv
  refine z_ci hI (z_runV (As := [.int x1]) (rest := []) X hI hl.1 (c_Huts_has l G K a0 x1 h _ hv) C_Huts_27 rfl hq (Nat.le_of_ble_eq_true rfl) ⟨Nat.le_of_ble_eq_true rfl, Nat.le_of_ble_eq_true rfl, Nat.zero_le _, Nat.zero_le _⟩ rfl d_Huts_goal_2) (fun H locs hI => ?_)
  refine lv_if_eq (tgt := 22) hx hb d_Huts_goal_5 (by decide) (fun hc5 => ?_) (fun hc5 => ?_)
  · replace hm := zif_t hc5 hm
    refine lv_iconst (v := (-1 : Int32)) hx hb d_Huts_goal_22 (by decide) ?_
    obtain rfl := zs1 hm
    exact z_iret X hI d_Huts_goal_23
  · replace hm := zif_f hc5 hm
    refine lv_iload_n hx hb d_Huts_goal_8 rfl (lv_at hl 2 rfl) ?_
    refine lv_if_lt (tgt := 22) hx hb d_Huts_goal_9 (by decide) (fun hc9 => ?_) (fun hc9 => ?_)
    · replace hm := zif_t hc9 hm
      refine lv_iconst (v := (-1 : Int32)) hx hb d_Huts_goal_22 (by decide) ?_
      obtain rfl := zs1 hm
      exact z_iret X hI d_Huts_goal_23
    · replace hm := zif_f hc9 hm
      refine lv_iload_n hx hb d_Huts_goal_12 rfl (lv_at hl 2 rfl) ?_
      refine lv_aload_n hx hb d_Huts_goal_13 rfl (lv_at hl 0 rfl) ?_
      obtain ⟨v14, hv, hm⟩ := zbd hm
      refine z_getR X hI F_Huts_19 hv d_Huts_goal_14 ?_
      refine lv_iload_n hx hb d_Huts_goal_17 rfl (lv_at hl 1 rfl) ?_
      obtain ⟨v18, hv, hm⟩ := zbd hm
      refine z_iald X hI hv d_Huts_goal_18 ?_
      refine lv_icmp_lt (tgt := 24) hx hb d_Huts_goal_19 (by decide) (fun hc19 => ?_) (fun hc19 => ?_)
      · replace hm := zif_t hc19 hm
        refine lv_aload_n hx hb d_Huts_goal_24 rfl (lv_at hl 0 rfl) ?_
        obtain ⟨v25, hv, hm⟩ := zbd hm
        refine z_getR X hI F_Huts_16 hv d_Huts_goal_25 ?_
        refine lv_iload_n hx hb d_Huts_goal_28 rfl (lv_at hl 1 rfl) ?_
        obtain ⟨v29, hv, hm⟩ := zbd hm
        refine z_aald X hI 5 (.array .int) rfl rfl hv d_Huts_goal_29 ?_
        refine lv_iload_n hx hb d_Huts_goal_30 rfl (lv_at hl 2 rfl) ?_
        refine lv_iconst (v := (nI 1)) hx hb d_Huts_goal_31 (by decide) ?_
        refine lv_iadd hx hb d_Huts_goal_32 ?_
        obtain ⟨v33, hv, hm⟩ := zbd hm
        refine z_iald X hI hv d_Huts_goal_33 ?_
        refine lv_aload_n hx hb d_Huts_goal_34 rfl (lv_at hl 0 rfl) ?_
        obtain ⟨v35, hv, hm⟩ := zbd hm
        refine z_getR X hI F_Huts_16 hv d_Huts_goal_35 ?_
        refine lv_iload_n hx hb d_Huts_goal_38 rfl (lv_at hl 1 rfl) ?_
        obtain ⟨v39, hv, hm⟩ := zbd hm
        refine z_aald X hI 5 (.array .int) rfl rfl hv d_Huts_goal_39 ?_
        refine lv_iload_n hx hb d_Huts_goal_40 rfl (lv_at hl 2 rfl) ?_
        obtain ⟨v41, hv, hm⟩ := zbd hm
        refine z_iald X hI hv d_Huts_goal_41 ?_
        refine lv_isub hx hb d_Huts_goal_42 ?_
        refine lv_istore (lv' := [(4, .int (v33 - v41)), (0, .ref (G.1 a0)), (1, .int x1), (2, .int x2), (3, .int x3)]) hx hb d_Huts_goal_43 hl (by decide) rfl (fun ls hl => ?_)
        refine lv_iload_n hx hb d_Huts_goal_45 rfl (lv_at hl 4 rfl) ?_
        refine lv_if_lt (tgt := 75) hx hb d_Huts_goal_46 (by decide) (fun hc46 => ?_) (fun hc46 => ?_)
        · replace hm := zif_t hc46 hm
          refine lv_iconst (v := (-1 : Int32)) hx hb d_Huts_goal_75 (by decide) ?_
          obtain rfl := zs1 hm
          exact z_iret X hI d_Huts_goal_76
        · replace hm := zif_f hc46 hm
          refine lv_iload_n hx hb d_Huts_goal_49 rfl (lv_at hl 4 rfl) ?_
          refine lv_iload hx hb d_Huts_goal_50 (lv_at hl 0 rfl) ?_
          refine lv_icmp_ge (tgt := 75) hx hb d_Huts_goal_52 (by decide) (fun hc52 => ?_) (fun hc52 => ?_)
          · replace hm := zif_t hc52 hm
            refine lv_iconst (v := (-1 : Int32)) hx hb d_Huts_goal_75 (by decide) ?_
            obtain rfl := zs1 hm
            exact z_iret X hI d_Huts_goal_76
          · replace hm := zif_f hc52 hm
            refine lv_aload_n hx hb d_Huts_goal_55 rfl (lv_at hl 1 rfl) ?_
            obtain ⟨v56, hv, hm⟩ := zbd hm
            refine z_getR X hI F_Huts_13 hv d_Huts_goal_56 ?_
            refine lv_iload_n hx hb d_Huts_goal_59 rfl (lv_at hl 2 rfl) ?_
            obtain ⟨v60, hv, hm⟩ := zbd hm
            refine z_aald X hI 5 (.array .int) rfl rfl hv d_Huts_goal_60 ?_
            refine lv_aload_n hx hb d_Huts_goal_61 rfl (lv_at hl 1 rfl) ?_
            obtain ⟨v62, hv, hm⟩ := zbd hm
            refine z_getR X hI F_Huts_16 hv d_Huts_goal_62 ?_
            refine lv_iload_n hx hb d_Huts_goal_65 rfl (lv_at hl 2 rfl) ?_
            obtain ⟨v66, hv, hm⟩ := zbd hm
            refine z_aald X hI 5 (.array .int) rfl rfl hv d_Huts_goal_66 ?_
            refine lv_iload_n hx hb d_Huts_goal_67 rfl (lv_at hl 3 rfl) ?_
            obtain ⟨v68, hv, hm⟩ := zbd hm
            refine z_iald X hI hv d_Huts_goal_68 ?_
            refine lv_iload_n hx hb d_Huts_goal_69 rfl (lv_at hl 4 rfl) ?_
            refine lv_iadd hx hb d_Huts_goal_70 ?_
            obtain ⟨v71, hv, hm⟩ := zbd hm
            refine z_iald X hI hv d_Huts_goal_71 ?_
            refine lv_goto (tgt := 76) hx hb d_Huts_goal_72 (by decide) ?_
            obtain rfl := zs1 hm
            exact z_iret X hI d_Huts_goal_76
      · replace hm := zif_f hc19 hm
        refine lv_iconst (v := (-1 : Int32)) hx hb d_Huts_goal_22 (by decide) ?_
        obtain rfl := zs1 hm
        exact z_iret X hI d_Huts_goal_23
set_option maxHeartbeats 4000000 in
set_option maxRecDepth 100000 in
theorem c_Huts_goal (l : Launch) (G : zG) (K : Nat) (a0 : Nat) (x1 : Int32) (x2 : Int32) (x3 : Int32) (h : zH) (r : Int32) (hm : m_Huts_goal a0 x1 x2 x3 h = some r) : zMi l G K y_Huts_goal prog_3_method_6_code 5 1 [.ref (G.1 a0), .int x1, .int x2, .int x3] h r h := zMet (by decide +kernel) (Nat.le_of_ble_eq_true rfl) (fun p e s m below meth c ls X hI hl => r_Huts_goal_0 X a0 x1 x2 x3 h hm hI hl)
-- walk of AllHome.goesTo
theorem d_Home_goesTo_0 : decode prog_1_method_5_code 0 = .ok (.aload_n 0, 1) := by decide +kernel
theorem d_Home_goesTo_1 : decode prog_1_method_5_code 1 = .ok (.getfield 16, 3) := by decide +kernel
theorem d_Home_goesTo_4 : decode prog_1_method_5_code 4 = .ok (.iload_n 1, 1) := by decide +kernel
theorem d_Home_goesTo_5 : decode prog_1_method_5_code 5 = .ok (.invokevirtual 77, 3) := by decide +kernel
theorem d_Home_goesTo_8 : decode prog_1_method_5_code 8 = .ok (.ifCond .eq 20, 3) := by decide +kernel
theorem d_Home_goesTo_11 : decode prog_1_method_5_code 11 = .ok (.iload_n 3, 1) := by decide +kernel
theorem d_Home_goesTo_12 : decode prog_1_method_5_code 12 = .ok (.ifCond .lt 16, 3) := by decide +kernel
theorem d_Home_goesTo_15 : decode prog_1_method_5_code 15 = .ok (.iload_n 3, 1) := by decide +kernel
theorem d_Home_goesTo_16 : decode prog_1_method_5_code 16 = .ok (.aload_n 0, 1) := by decide +kernel
theorem d_Home_goesTo_17 : decode prog_1_method_5_code 17 = .ok (.getfield 16, 3) := by decide +kernel
theorem d_Home_goesTo_20 : decode prog_1_method_5_code 20 = .ok (.iload_n 1, 1) := by decide +kernel
theorem d_Home_goesTo_21 : decode prog_1_method_5_code 21 = .ok (.iload_n 2, 1) := by decide +kernel
theorem d_Home_goesTo_22 : decode prog_1_method_5_code 22 = .ok (.invokevirtual 85, 3) := by decide +kernel
theorem d_Home_goesTo_25 : decode prog_1_method_5_code 25 = .ok (.if_icmp .lt 5, 3) := by decide +kernel
theorem d_Home_goesTo_28 : decode prog_1_method_5_code 28 = .ok (.iconst (-1), 1) := by decide +kernel
theorem d_Home_goesTo_29 : decode prog_1_method_5_code 29 = .ok (.ireturn, 1) := by decide +kernel
theorem d_Home_goesTo_30 : decode prog_1_method_5_code 30 = .ok (.aload_n 0, 1) := by decide +kernel
theorem d_Home_goesTo_31 : decode prog_1_method_5_code 31 = .ok (.getfield 16, 3) := by decide +kernel
theorem d_Home_goesTo_34 : decode prog_1_method_5_code 34 = .ok (.iload_n 1, 1) := by decide +kernel
theorem d_Home_goesTo_35 : decode prog_1_method_5_code 35 = .ok (.iload_n 2, 1) := by decide +kernel
theorem d_Home_goesTo_36 : decode prog_1_method_5_code 36 = .ok (.iload_n 3, 1) := by decide +kernel
theorem d_Home_goesTo_37 : decode prog_1_method_5_code 37 = .ok (.invokevirtual 89, 3) := by decide +kernel
theorem d_Home_goesTo_40 : decode prog_1_method_5_code 40 = .ok (.ireturn, 1) := by decide +kernel
set_option maxHeartbeats 4000000 in
set_option maxRecDepth 100000 in
theorem r_Home_goesTo_0 {p : Program} {l : Launch} {e : Env} {s : State} {m : MethodId} {args : Array Value} {below : List Frame} {meth : Method} {c : Code} {G : zG} {K : Nat} (X : zX p s m args meth c "AllHome" prog_1_method_5_code 4 (some .int) G (zA G K)) {r : Int32} (a0 : Nat) (x1 : Int32) (x2 : Int32) (x3 : Int32) (h : zH) (hm : m_Home_goesTo a0 x1 x2 x3 h = some r) {H : Heap} {locs : List Loc} {ls : Array Slot} (hI : zI G K s (zA G K) H locs h) (hl : lv_has ls 4 [(0, .ref (G.1 a0)), (1, .int x1), (2, .int x2), (3, .int x3)]) : W p l e (zR 2) s m args below meth c H locs 0 0 (MQ below (zQi G K r h) args s 0 0 (zA G K)) (F0 m 0 ls []) := by
  obtain ⟨hx, hb, hml, hown, hts, hr, hlocks, hK, hST, hNs⟩ := id X
  unfold m_Home_goesTo at hm
  refine lv_aload_n hx hb d_Home_goesTo_0 rfl (lv_at hl 0 rfl) ?_
  obtain ⟨v1, hv, hm⟩ := zbd hm
  refine z_getR X hI F_Home_16 hv d_Home_goesTo_1 ?_
  refine lv_iload_n hx hb d_Home_goesTo_4 rfl (lv_at hl 1 rfl) ?_
  obtain ⟨v5, hv, hm⟩ := zbd hm
  obtain ⟨hq, hv⟩ := zcv_at hv
  refine z_ci hI (z_runV (As := [.int x1]) (rest := []) X hI hl.1 (c_Huts_has l G K v1 x1 h _ hv) C_Home_77 rfl hq (Nat.le_of_ble_eq_true rfl) ⟨Nat.le_of_ble_eq_true rfl, Nat.le_of_ble_eq_true rfl, Nat.zero_le _, Nat.zero_le _⟩ rfl d_Home_goesTo_5) (fun H locs hI => ?_)
  refine lv_if_eq (tgt := 28) hx hb d_Home_goesTo_8 (by decide) (fun hc8 => ?_) (fun hc8 => ?_)
  · replace hm := zif_t hc8 hm
    refine lv_iconst (v := (-1 : Int32)) hx hb d_Home_goesTo_28 (by decide) ?_
    obtain rfl := zs1 hm
    exact z_iret X hI d_Home_goesTo_29
  · replace hm := zif_f hc8 hm
    refine lv_iload_n hx hb d_Home_goesTo_11 rfl (lv_at hl 3 rfl) ?_
    refine lv_if_lt (tgt := 28) hx hb d_Home_goesTo_12 (by decide) (fun hc12 => ?_) (fun hc12 => ?_)
    · replace hm := zif_t hc12 hm
      refine lv_iconst (v := (-1 : Int32)) hx hb d_Home_goesTo_28 (by decide) ?_
      obtain rfl := zs1 hm
      exact z_iret X hI d_Home_goesTo_29
    · replace hm := zif_f hc12 hm
      refine lv_iload_n hx hb d_Home_goesTo_15 rfl (lv_at hl 3 rfl) ?_
      refine lv_aload_n hx hb d_Home_goesTo_16 rfl (lv_at hl 0 rfl) ?_
      obtain ⟨v17, hv, hm⟩ := zbd hm
      refine z_getR X hI F_Home_16 hv d_Home_goesTo_17 ?_
      refine lv_iload_n hx hb d_Home_goesTo_20 rfl (lv_at hl 1 rfl) ?_
      refine lv_iload_n hx hb d_Home_goesTo_21 rfl (lv_at hl 2 rfl) ?_
      obtain ⟨v22, hv, hm⟩ := zbd hm
      obtain ⟨hq, hv⟩ := zcv_at hv
      refine z_ci hI (z_runV (As := [.int x1, .int x2]) (rest := [.int x3]) X hI hl.1 (c_Huts_wordsOf l G K v17 x1 x2 h _ hv) C_Home_85 rfl hq (Nat.le_of_ble_eq_true rfl) ⟨Nat.le_of_ble_eq_true rfl, Nat.le_of_ble_eq_true rfl, Nat.zero_le _, Nat.zero_le _⟩ rfl d_Home_goesTo_22) (fun H locs hI => ?_)
      refine lv_icmp_lt (tgt := 30) hx hb d_Home_goesTo_25 (by decide) (fun hc25 => ?_) (fun hc25 => ?_)
      · replace hm := zif_t hc25 hm
        refine lv_aload_n hx hb d_Home_goesTo_30 rfl (lv_at hl 0 rfl) ?_
        obtain ⟨v31, hv, hm⟩ := zbd hm
        refine z_getR X hI F_Home_16 hv d_Home_goesTo_31 ?_
        refine lv_iload_n hx hb d_Home_goesTo_34 rfl (lv_at hl 1 rfl) ?_
        refine lv_iload_n hx hb d_Home_goesTo_35 rfl (lv_at hl 2 rfl) ?_
        refine lv_iload_n hx hb d_Home_goesTo_36 rfl (lv_at hl 3 rfl) ?_
        obtain ⟨v37, hv, hm⟩ := zbd hm
        obtain ⟨hq, hv⟩ := zcv_at hv
        refine z_ci hI (z_runV (As := [.int x1, .int x2, .int x3]) (rest := []) X hI hl.1 (c_Huts_goal l G K v31 x1 x2 x3 h _ hv) C_Home_89 rfl hq (Nat.le_of_ble_eq_true rfl) ⟨Nat.le_of_ble_eq_true rfl, Nat.le_of_ble_eq_true rfl, Nat.zero_le _, Nat.zero_le _⟩ rfl d_Home_goesTo_37) (fun H locs hI => ?_)
        obtain rfl := zs1 hm
        exact z_iret X hI d_Home_goesTo_40
      · replace hm := zif_f hc25 hm
        refine lv_iconst (v := (-1 : Int32)) hx hb d_Home_goesTo_28 (by decide) ?_
        obtain rfl := zs1 hm
        exact z_iret X hI d_Home_goesTo_29
set_option maxHeartbeats 4000000 in
set_option maxRecDepth 100000 in
theorem c_Home_goesTo (l : Launch) (G : zG) (K : Nat) (a0 : Nat) (x1 : Int32) (x2 : Int32) (x3 : Int32) (h : zH) (r : Int32) (hm : m_Home_goesTo a0 x1 x2 x3 h = some r) : zMi l G K y_Home_goesTo prog_1_method_5_code 4 2 [.ref (G.1 a0), .int x1, .int x2, .int x3] h r h := zMet (by decide +kernel) (Nat.le_of_ble_eq_true rfl) (fun p e s m below meth c ls X hI hl => r_Home_goesTo_0 X a0 x1 x2 x3 h hm hI hl)
-- walk of AllHome.isKind
theorem d_Home_isKind_0 : decode prog_1_method_32_code 0 = .ok (.iload_n 0, 1) := by decide +kernel
theorem d_Home_isKind_1 : decode prog_1_method_32_code 1 = .ok (.ifCond .lt 13, 3) := by decide +kernel
theorem d_Home_isKind_4 : decode prog_1_method_32_code 4 = .ok (.iload_n 0, 1) := by decide +kernel
theorem d_Home_isKind_5 : decode prog_1_method_32_code 5 = .ok (.bipush 9, 2) := by decide +kernel
theorem d_Home_isKind_7 : decode prog_1_method_32_code 7 = .ok (.if_icmp .ge 7, 3) := by decide +kernel
theorem d_Home_isKind_10 : decode prog_1_method_32_code 10 = .ok (.iconst 1, 1) := by decide +kernel
theorem d_Home_isKind_11 : decode prog_1_method_32_code 11 = .ok (.goto 4, 3) := by decide +kernel
theorem d_Home_isKind_14 : decode prog_1_method_32_code 14 = .ok (.iconst 0, 1) := by decide +kernel
theorem d_Home_isKind_15 : decode prog_1_method_32_code 15 = .ok (.ireturn, 1) := by decide +kernel
set_option maxHeartbeats 4000000 in
set_option maxRecDepth 100000 in
theorem r_Home_isKind_0 {p : Program} {l : Launch} {e : Env} {s : State} {m : MethodId} {args : Array Value} {below : List Frame} {meth : Method} {c : Code} {G : zG} {K : Nat} (X : zX p s m args meth c "AllHome" prog_1_method_32_code 1 (some .boolean) G (zA G K)) {r : Int32} (x0 : Int32) (h : zH) (hm : m_Home_isKind x0 h = some r) {H : Heap} {locs : List Loc} {ls : Array Slot} (hI : zI G K s (zA G K) H locs h) (hl : lv_has ls 1 [(0, .int x0)]) : W p l e (zR 0) s m args below meth c H locs 0 0 (MQ below (zQi G K r h) args s 0 0 (zA G K)) (F0 m 0 ls []) := by
  obtain ⟨hx, hb, hml, hown, hts, hr, hlocks, hK, hST, hNs⟩ := id X
  unfold m_Home_isKind at hm
  refine lv_iload_n hx hb d_Home_isKind_0 rfl (lv_at hl 0 rfl) ?_
  refine lv_if_lt (tgt := 14) hx hb d_Home_isKind_1 (by decide) (fun hc1 => ?_) (fun hc1 => ?_)
  · replace hm := zif_t hc1 hm
    refine lv_iconst (v := (nI 0)) hx hb d_Home_isKind_14 (by decide) ?_
    obtain rfl := zs1 hm
    exact z_zret X hI (by decide) d_Home_isKind_15
  · replace hm := zif_f hc1 hm
    refine lv_iload_n hx hb d_Home_isKind_4 rfl (lv_at hl 0 rfl) ?_
    refine lv_bipush (v := (nI 9)) hx hb d_Home_isKind_5 (by decide) ?_
    refine lv_icmp_ge (tgt := 14) hx hb d_Home_isKind_7 (by decide) (fun hc7 => ?_) (fun hc7 => ?_)
    · replace hm := zif_t hc7 hm
      refine lv_iconst (v := (nI 0)) hx hb d_Home_isKind_14 (by decide) ?_
      obtain rfl := zs1 hm
      exact z_zret X hI (by decide) d_Home_isKind_15
    · replace hm := zif_f hc7 hm
      refine lv_iconst (v := (nI 1)) hx hb d_Home_isKind_10 (by decide) ?_
      refine lv_goto (tgt := 15) hx hb d_Home_isKind_11 (by decide) ?_
      obtain rfl := zs1 hm
      exact z_zret X hI (by decide) d_Home_isKind_15
set_option maxHeartbeats 4000000 in
set_option maxRecDepth 100000 in
theorem c_Home_isKind (l : Launch) (G : zG) (K : Nat) (x0 : Int32) (h : zH) (r : Int32) (hm : m_Home_isKind x0 h = some r) : zMz l G K y_Home_isKind prog_1_method_32_code 1 0 [.int x0] h r h := zMet (by decide +kernel) (Nat.le_of_ble_eq_true rfl) (fun p e s m below meth c ls X hI hl => r_Home_isKind_0 X x0 h hm hI hl)
-- walk of AllHome.way
theorem d_Home_way_0 : decode prog_1_method_6_code 0 = .ok (.iload_n 1, 1) := by decide +kernel
theorem d_Home_way_1 : decode prog_1_method_6_code 1 = .ok (.invokestatic 93, 3) := by decide +kernel
theorem d_Home_way_4 : decode prog_1_method_6_code 4 = .ok (.ifCond .ne 5, 3) := by decide +kernel
theorem d_Home_way_7 : decode prog_1_method_6_code 7 = .ok (.iconst (-1), 1) := by decide +kernel
theorem d_Home_way_8 : decode prog_1_method_6_code 8 = .ok (.ireturn, 1) := by decide +kernel
theorem d_Home_way_9 : decode prog_1_method_6_code 9 = .ok (.aload_n 0, 1) := by decide +kernel
theorem d_Home_way_10 : decode prog_1_method_6_code 10 = .ok (.getfield 96, 3) := by decide +kernel
theorem d_Home_way_13 : decode prog_1_method_6_code 13 = .ok (.bipush 10, 2) := by decide +kernel
theorem d_Home_way_15 : decode prog_1_method_6_code 15 = .ok (.if_icmp .lt 6, 3) := by decide +kernel
theorem d_Home_way_18 : decode prog_1_method_6_code 18 = .ok (.bipush (-3), 2) := by decide +kernel
theorem d_Home_way_20 : decode prog_1_method_6_code 20 = .ok (.ireturn, 1) := by decide +kernel
theorem d_Home_way_21 : decode prog_1_method_6_code 21 = .ok (.aload_n 0, 1) := by decide +kernel
theorem d_Home_way_22 : decode prog_1_method_6_code 22 = .ok (.getfield 20, 3) := by decide +kernel
theorem d_Home_way_25 : decode prog_1_method_6_code 25 = .ok (.aload_n 0, 1) := by decide +kernel
theorem d_Home_way_26 : decode prog_1_method_6_code 26 = .ok (.getfield 96, 3) := by decide +kernel
theorem d_Home_way_29 : decode prog_1_method_6_code 29 = .ok (.iload_n 1, 1) := by decide +kernel
theorem d_Home_way_30 : decode prog_1_method_6_code 30 = .ok (.iastore, 1) := by decide +kernel
theorem d_Home_way_31 : decode prog_1_method_6_code 31 = .ok (.aload_n 0, 1) := by decide +kernel
theorem d_Home_way_32 : decode prog_1_method_6_code 32 = .ok (.dup, 1) := by decide +kernel
theorem d_Home_way_33 : decode prog_1_method_6_code 33 = .ok (.getfield 96, 3) := by decide +kernel
theorem d_Home_way_36 : decode prog_1_method_6_code 36 = .ok (.iconst 1, 1) := by decide +kernel
theorem d_Home_way_37 : decode prog_1_method_6_code 37 = .ok (.iadd, 1) := by decide +kernel
theorem d_Home_way_38 : decode prog_1_method_6_code 38 = .ok (.putfield 96, 3) := by decide +kernel
theorem d_Home_way_41 : decode prog_1_method_6_code 41 = .ok (.aload_n 0, 1) := by decide +kernel
theorem d_Home_way_42 : decode prog_1_method_6_code 42 = .ok (.getfield 96, 3) := by decide +kernel
theorem d_Home_way_45 : decode prog_1_method_6_code 45 = .ok (.iconst 1, 1) := by decide +kernel
theorem d_Home_way_46 : decode prog_1_method_6_code 46 = .ok (.isub, 1) := by decide +kernel
theorem d_Home_way_47 : decode prog_1_method_6_code 47 = .ok (.ireturn, 1) := by decide +kernel
set_option maxHeartbeats 4000000 in
set_option maxRecDepth 100000 in
theorem r_Home_way_0 {p : Program} {l : Launch} {e : Env} {s : State} {m : MethodId} {args : Array Value} {below : List Frame} {meth : Method} {c : Code} {G : zG} {K : Nat} (X : zX p s m args meth c "AllHome" prog_1_method_6_code 2 (some .int) G (zA G K)) {r : Int32} {h' : zH} (a0 : Nat) (x1 : Int32) (h : zH) (hm : m_Home_way a0 x1 h = some (r, h')) {H : Heap} {locs : List Loc} {ls : Array Slot} (hI : zI G K s (zA G K) H locs h) (hl : lv_has ls 2 [(0, .ref (G.1 a0)), (1, .int x1)]) : W p l e (zR 1) s m args below meth c H locs 0 0 (MQ below (zQi G K r h') args s 0 0 (zA G K)) (F0 m 0 ls []) := by
  obtain ⟨hx, hb, hml, hown, hts, hr, hlocks, hK, hST, hNs⟩ := id X
  unfold m_Home_way at hm
  refine lv_iload_n hx hb d_Home_way_0 rfl (lv_at hl 1 rfl) ?_
  obtain ⟨v1, hv, hm⟩ := zbd hm
  refine z_ci hI (z_runS (As := [.int x1]) (rest := []) X hI hl.1 (c_Home_isKind l G K x1 h _ hv) C_Home_93 rfl (Nat.le_of_ble_eq_true rfl) ⟨Nat.le_of_ble_eq_true rfl, Nat.le_of_ble_eq_true rfl, Nat.zero_le _, Nat.zero_le _⟩ rfl d_Home_way_1) (fun H locs hI => ?_)
  refine lv_if_ne (tgt := 9) hx hb d_Home_way_4 (by decide) (fun hc4 => ?_) (fun hc4 => ?_)
  · replace hm := zif_f hc4 hm
    refine lv_aload_n hx hb d_Home_way_9 rfl (lv_at hl 0 rfl) ?_
    obtain ⟨v10, hv, hm⟩ := zbd hm
    refine z_getI X hI F_Home_96 hv d_Home_way_10 ?_
    refine lv_bipush (v := (nI 10)) hx hb d_Home_way_13 (by decide) ?_
    refine lv_icmp_lt (tgt := 21) hx hb d_Home_way_15 (by decide) (fun hc15 => ?_) (fun hc15 => ?_)
    · replace hm := zif_t hc15 hm
      refine lv_aload_n hx hb d_Home_way_21 rfl (lv_at hl 0 rfl) ?_
      obtain ⟨v22, hv, hm⟩ := zbd hm
      refine z_getR X hI F_Home_20 hv d_Home_way_22 ?_
      refine lv_aload_n hx hb d_Home_way_25 rfl (lv_at hl 0 rfl) ?_
      obtain ⟨v26, hv, hm⟩ := zbd hm
      refine z_getI X hI F_Home_96 hv d_Home_way_26 ?_
      refine lv_iload_n hx hb d_Home_way_29 rfl (lv_at hl 1 rfl) ?_
      obtain ⟨h30, hv, hm⟩ := zbd hm
      refine z_iast X hI hv d_Home_way_30 (fun H locs hI => ?_)
      refine lv_aload_n hx hb d_Home_way_31 rfl (lv_at hl 0 rfl) ?_
      refine lv_dup hx hb d_Home_way_32 rfl ?_
      obtain ⟨v33, hv, hm⟩ := zbd hm
      refine z_getI X hI F_Home_96 hv d_Home_way_33 ?_
      refine lv_iconst (v := (nI 1)) hx hb d_Home_way_36 (by decide) ?_
      refine lv_iadd hx hb d_Home_way_37 ?_
      obtain ⟨h38, hv, hm⟩ := zbd hm
      refine z_putI X hI P_Home_96 hv d_Home_way_38 (fun H locs hI => ?_)
      refine lv_aload_n hx hb d_Home_way_41 rfl (lv_at hl 0 rfl) ?_
      obtain ⟨v42, hv, hm⟩ := zbd hm
      refine z_getI X hI F_Home_96 hv d_Home_way_42 ?_
      refine lv_iconst (v := (nI 1)) hx hb d_Home_way_45 (by decide) ?_
      refine lv_isub hx hb d_Home_way_46 ?_
      obtain ⟨rfl, rfl⟩ := zs2 hm
      exact z_iret X hI d_Home_way_47
    · replace hm := zif_f hc15 hm
      refine lv_bipush (v := (-3 : Int32)) hx hb d_Home_way_18 (by decide) ?_
      obtain ⟨rfl, rfl⟩ := zs2 hm
      exact z_iret X hI d_Home_way_20
  · replace hm := zif_t hc4 hm
    refine lv_iconst (v := (-1 : Int32)) hx hb d_Home_way_7 (by decide) ?_
    obtain ⟨rfl, rfl⟩ := zs2 hm
    exact z_iret X hI d_Home_way_8
set_option maxHeartbeats 4000000 in
set_option maxRecDepth 100000 in
theorem c_Home_way (l : Launch) (G : zG) (K : Nat) (a0 : Nat) (x1 : Int32) (h : zH) (r : Int32) (h' : zH) (hm : m_Home_way a0 x1 h = some (r, h')) : zMi l G K y_Home_way prog_1_method_6_code 2 1 [.ref (G.1 a0), .int x1] h r h' := zMet (by decide +kernel) (Nat.le_of_ble_eq_true rfl) (fun p e s m below meth c ls X hI hl => r_Home_way_0 X a0 x1 h hm hI hl)
-- walk of AllHome.isWay
theorem d_Home_isWay_0 : decode prog_1_method_29_code 0 = .ok (.iload_n 1, 1) := by decide +kernel
theorem d_Home_isWay_1 : decode prog_1_method_29_code 1 = .ok (.ifCond .lt 15, 3) := by decide +kernel
theorem d_Home_isWay_4 : decode prog_1_method_29_code 4 = .ok (.iload_n 1, 1) := by decide +kernel
theorem d_Home_isWay_5 : decode prog_1_method_29_code 5 = .ok (.aload_n 0, 1) := by decide +kernel
theorem d_Home_isWay_6 : decode prog_1_method_29_code 6 = .ok (.getfield 96, 3) := by decide +kernel
theorem d_Home_isWay_9 : decode prog_1_method_29_code 9 = .ok (.if_icmp .ge 7, 3) := by decide +kernel
theorem d_Home_isWay_12 : decode prog_1_method_29_code 12 = .ok (.iconst 1, 1) := by decide +kernel
theorem d_Home_isWay_13 : decode prog_1_method_29_code 13 = .ok (.goto 4, 3) := by decide +kernel
theorem d_Home_isWay_16 : decode prog_1_method_29_code 16 = .ok (.iconst 0, 1) := by decide +kernel
theorem d_Home_isWay_17 : decode prog_1_method_29_code 17 = .ok (.ireturn, 1) := by decide +kernel
set_option maxHeartbeats 4000000 in
set_option maxRecDepth 100000 in
theorem r_Home_isWay_0 {p : Program} {l : Launch} {e : Env} {s : State} {m : MethodId} {args : Array Value} {below : List Frame} {meth : Method} {c : Code} {G : zG} {K : Nat} (X : zX p s m args meth c "AllHome" prog_1_method_29_code 2 (some .boolean) G (zA G K)) {r : Int32} (a0 : Nat) (x1 : Int32) (h : zH) (hm : m_Home_isWay a0 x1 h = some r) {H : Heap} {locs : List Loc} {ls : Array Slot} (hI : zI G K s (zA G K) H locs h) (hl : lv_has ls 2 [(0, .ref (G.1 a0)), (1, .int x1)]) : W p l e (zR 0) s m args below meth c H locs 0 0 (MQ below (zQi G K r h) args s 0 0 (zA G K)) (F0 m 0 ls []) := by
  obtain ⟨hx, hb, hml, hown, hts, hr, hlocks, hK, hST, hNs⟩ := id X
  unfold m_Home_isWay at hm
  refine lv_iload_n hx hb d_Home_isWay_0 rfl (lv_at hl 1 rfl) ?_
  refine lv_if_lt (tgt := 16) hx hb d_Home_isWay_1 (by decide) (fun hc1 => ?_) (fun hc1 => ?_)
  · replace hm := zif_t hc1 hm
    refine lv_iconst (v := (nI 0)) hx hb d_Home_isWay_16 (by decide) ?_
    obtain rfl := zs1 hm
    exact z_zret X hI (by decide) d_Home_isWay_17
  · replace hm := zif_f hc1 hm
    refine lv_iload_n hx hb d_Home_isWay_4 rfl (lv_at hl 1 rfl) ?_
    refine lv_aload_n hx hb d_Home_isWay_5 rfl (lv_at hl 0 rfl) ?_
    obtain ⟨v6, hv, hm⟩ := zbd hm
    refine z_getI X hI F_Home_96 hv d_Home_isWay_6 ?_
    refine lv_icmp_ge (tgt := 16) hx hb d_Home_isWay_9 (by decide) (fun hc9 => ?_) (fun hc9 => ?_)
    · replace hm := zif_t hc9 hm
      refine lv_iconst (v := (nI 0)) hx hb d_Home_isWay_16 (by decide) ?_
      obtain rfl := zs1 hm
      exact z_zret X hI (by decide) d_Home_isWay_17
    · replace hm := zif_f hc9 hm
      refine lv_iconst (v := (nI 1)) hx hb d_Home_isWay_12 (by decide) ?_
      refine lv_goto (tgt := 17) hx hb d_Home_isWay_13 (by decide) ?_
      obtain rfl := zs1 hm
      exact z_zret X hI (by decide) d_Home_isWay_17
set_option maxHeartbeats 4000000 in
set_option maxRecDepth 100000 in
theorem c_Home_isWay (l : Launch) (G : zG) (K : Nat) (a0 : Nat) (x1 : Int32) (h : zH) (r : Int32) (hm : m_Home_isWay a0 x1 h = some r) : zMz l G K y_Home_isWay prog_1_method_29_code 2 0 [.ref (G.1 a0), .int x1] h r h := zMet (by decide +kernel) (Nat.le_of_ble_eq_true rfl) (fun p e s m below meth c ls X hI hl => r_Home_isWay_0 X a0 x1 h hm hI hl)
-- walk of AllHome.kindOf
theorem d_Home_kindOf_0 : decode prog_1_method_7_code 0 = .ok (.aload_n 0, 1) := by decide +kernel
theorem d_Home_kindOf_1 : decode prog_1_method_7_code 1 = .ok (.iload_n 1, 1) := by decide +kernel
theorem d_Home_kindOf_2 : decode prog_1_method_7_code 2 = .ok (.invokevirtual 99, 3) := by decide +kernel
theorem d_Home_kindOf_5 : decode prog_1_method_7_code 5 = .ok (.ifCond .eq 12, 3) := by decide +kernel
theorem d_Home_kindOf_8 : decode prog_1_method_7_code 8 = .ok (.aload_n 0, 1) := by decide +kernel
theorem d_Home_kindOf_9 : decode prog_1_method_7_code 9 = .ok (.getfield 20, 3) := by decide +kernel
theorem d_Home_kindOf_12 : decode prog_1_method_7_code 12 = .ok (.iload_n 1, 1) := by decide +kernel
theorem d_Home_kindOf_13 : decode prog_1_method_7_code 13 = .ok (.iaload, 1) := by decide +kernel
theorem d_Home_kindOf_14 : decode prog_1_method_7_code 14 = .ok (.goto 4, 3) := by decide +kernel
theorem d_Home_kindOf_17 : decode prog_1_method_7_code 17 = .ok (.iconst (-1), 1) := by decide +kernel
theorem d_Home_kindOf_18 : decode prog_1_method_7_code 18 = .ok (.ireturn, 1) := by decide +kernel
set_option maxHeartbeats 4000000 in
set_option maxRecDepth 100000 in
theorem r_Home_kindOf_0 {p : Program} {l : Launch} {e : Env} {s : State} {m : MethodId} {args : Array Value} {below : List Frame} {meth : Method} {c : Code} {G : zG} {K : Nat} (X : zX p s m args meth c "AllHome" prog_1_method_7_code 2 (some .int) G (zA G K)) {r : Int32} (a0 : Nat) (x1 : Int32) (h : zH) (hm : m_Home_kindOf a0 x1 h = some r) {H : Heap} {locs : List Loc} {ls : Array Slot} (hI : zI G K s (zA G K) H locs h) (hl : lv_has ls 2 [(0, .ref (G.1 a0)), (1, .int x1)]) : W p l e (zR 1) s m args below meth c H locs 0 0 (MQ below (zQi G K r h) args s 0 0 (zA G K)) (F0 m 0 ls []) := by
  obtain ⟨hx, hb, hml, hown, hts, hr, hlocks, hK, hST, hNs⟩ := id X
  unfold m_Home_kindOf at hm
  refine lv_aload_n hx hb d_Home_kindOf_0 rfl (lv_at hl 0 rfl) ?_
  refine lv_iload_n hx hb d_Home_kindOf_1 rfl (lv_at hl 1 rfl) ?_
  obtain ⟨v2, hv, hm⟩ := zbd hm
  obtain ⟨hq, hv⟩ := zcv_at hv
  refine z_ci hI (z_runV (As := [.int x1]) (rest := []) X hI hl.1 (c_Home_isWay l G K a0 x1 h _ hv) C_Home_99 rfl hq (Nat.le_of_ble_eq_true rfl) ⟨Nat.le_of_ble_eq_true rfl, Nat.le_of_ble_eq_true rfl, Nat.zero_le _, Nat.zero_le _⟩ rfl d_Home_kindOf_2) (fun H locs hI => ?_)
  refine lv_if_eq (tgt := 17) hx hb d_Home_kindOf_5 (by decide) (fun hc5 => ?_) (fun hc5 => ?_)
  · replace hm := zif_t hc5 hm
    refine lv_iconst (v := (-1 : Int32)) hx hb d_Home_kindOf_17 (by decide) ?_
    obtain rfl := zs1 hm
    exact z_iret X hI d_Home_kindOf_18
  · replace hm := zif_f hc5 hm
    refine lv_aload_n hx hb d_Home_kindOf_8 rfl (lv_at hl 0 rfl) ?_
    obtain ⟨v9, hv, hm⟩ := zbd hm
    refine z_getR X hI F_Home_20 hv d_Home_kindOf_9 ?_
    refine lv_iload_n hx hb d_Home_kindOf_12 rfl (lv_at hl 1 rfl) ?_
    obtain ⟨v13, hv, hm⟩ := zbd hm
    refine z_iald X hI hv d_Home_kindOf_13 ?_
    refine lv_goto (tgt := 18) hx hb d_Home_kindOf_14 (by decide) ?_
    obtain rfl := zs1 hm
    exact z_iret X hI d_Home_kindOf_18
set_option maxHeartbeats 4000000 in
set_option maxRecDepth 100000 in
theorem c_Home_kindOf (l : Launch) (G : zG) (K : Nat) (a0 : Nat) (x1 : Int32) (h : zH) (r : Int32) (hm : m_Home_kindOf a0 x1 h = some r) : zMi l G K y_Home_kindOf prog_1_method_7_code 2 1 [.ref (G.1 a0), .int x1] h r h := zMet (by decide +kernel) (Nat.le_of_ble_eq_true rfl) (fun p e s m below meth c ls X hI hl => r_Home_kindOf_0 X a0 x1 h hm hI hl)
-- walk of java/util/Arrays.fill
theorem d_Fill_I_0 : decode prog_12_method_103_code 0 = .ok (.iconst 0, 1) := by decide +kernel
theorem d_Fill_I_1 : decode prog_12_method_103_code 1 = .ok (.istore_n 2, 1) := by decide +kernel
theorem d_Fill_I_2 : decode prog_12_method_103_code 2 = .ok (.aload_n 0, 1) := by decide +kernel
theorem d_Fill_I_3 : decode prog_12_method_103_code 3 = .ok (.arraylength, 1) := by decide +kernel
theorem d_Fill_I_4 : decode prog_12_method_103_code 4 = .ok (.istore_n 3, 1) := by decide +kernel
theorem d_Fill_I_5 : decode prog_12_method_103_code 5 = .ok (.iload_n 2, 1) := by decide +kernel
theorem d_Fill_I_6 : decode prog_12_method_103_code 6 = .ok (.iload_n 3, 1) := by decide +kernel
theorem d_Fill_I_7 : decode prog_12_method_103_code 7 = .ok (.if_icmp .ge 13, 3) := by decide +kernel
theorem d_Fill_I_10 : decode prog_12_method_103_code 10 = .ok (.aload_n 0, 1) := by decide +kernel
theorem d_Fill_I_11 : decode prog_12_method_103_code 11 = .ok (.iload_n 2, 1) := by decide +kernel
theorem d_Fill_I_12 : decode prog_12_method_103_code 12 = .ok (.iload_n 1, 1) := by decide +kernel
theorem d_Fill_I_13 : decode prog_12_method_103_code 13 = .ok (.iastore, 1) := by decide +kernel
theorem d_Fill_I_14 : decode prog_12_method_103_code 14 = .ok (.iinc 2 1, 3) := by decide +kernel
theorem d_Fill_I_17 : decode prog_12_method_103_code 17 = .ok (.goto (-12), 3) := by decide +kernel
theorem d_Fill_I_20 : decode prog_12_method_103_code 20 = .ok (.return_, 1) := by decide +kernel
set_option maxHeartbeats 4000000 in
set_option maxRecDepth 100000 in
theorem r_Fill_I_5_b {p : Program} {l : Launch} {e : Env} {s : State} {m : MethodId} {args : Array Value} {below : List Frame} {meth : Method} {c : Code} {G : zG} {K : Nat} (X : zX p s m args meth c "java/util/Arrays" prog_12_method_103_code 4 none G (zA G K)) {h' : zH} (a0 : Nat) (x1 : Int32) (x3 : Int32) (k5 : (Int32 × zH) → Option zH) (hk5 : ∀ (w : Int32 × zH), k5 w = some h' → ∀ (H : Heap) (locs : List Loc) (ls : Array Slot), zI G K s (zA G K) H locs w.2 → lv_has ls 4 [(0, .ref (G.1 a0)), (1, .int x1), (2, .int w.1), (3, .int x3)] → W p l e (zR 0) s m args below meth c H locs 0 0 (MQ below (zQv G K h') args s 0 0 (zA G K)) (F0 m 5 ls [])) (u : Int32 × zH) (hm : g_Fill_I_5 a0 x1 x3 k5 u = some h') {H : Heap} {locs : List Loc} {ls : Array Slot} (hI : zI G K s (zA G K) H locs u.2) (hl : lv_has ls 4 [(0, .ref (G.1 a0)), (1, .int x1), (2, .int u.1), (3, .int x3)]) : W p l e (zR 0) s m args below meth c H locs 0 0 (MQ below (zQv G K h') args s 0 0 (zA G K)) (F0 m 5 ls []) := by
  obtain ⟨hx, hb, hml, hown, hts, hr, hlocks, hK, hST, hNs⟩ := id X
  unfold g_Fill_I_5 at hm
  refine lv_iload_n hx hb d_Fill_I_5 rfl (lv_at hl 2 rfl) ?_
  refine lv_iload_n hx hb d_Fill_I_6 rfl (lv_at hl 3 rfl) ?_
  refine lv_icmp_ge (tgt := 20) hx hb d_Fill_I_7 (by decide) (fun hc7 => ?_) (fun hc7 => ?_)
  · replace hm := zif_t hc7 hm
    obtain rfl := zs1 hm
    exact z_vret X hI d_Fill_I_20
  · replace hm := zif_f hc7 hm
    refine lv_aload_n hx hb d_Fill_I_10 rfl (lv_at hl 0 rfl) ?_
    refine lv_iload_n hx hb d_Fill_I_11 rfl (lv_at hl 2 rfl) ?_
    refine lv_iload_n hx hb d_Fill_I_12 rfl (lv_at hl 1 rfl) ?_
    obtain ⟨h13, hv, hm⟩ := zbd hm
    refine z_iast X hI hv d_Fill_I_13 (fun H locs hI => ?_)
    refine lv_iinc (v := (u.1 + (nI 1))) (lv' := [(2, .int (u.1 + (nI 1))), (0, .ref (G.1 a0)), (1, .int x1), (3, .int x3)]) hx hb d_Fill_I_14 hl (k := 2) rfl (congrArg (fun z => u.1 + z) (show Int32.ofInt (1) = (nI 1) by decide)) (by decide) rfl (fun ls hl => ?_)
    refine lv_goto (tgt := 5) hx hb d_Fill_I_17 (by decide) ?_
    obtain ⟨g0, e0⟩ : ∃ z, z = (u.1 + (nI 1)) := ⟨_, rfl⟩
    rw [← e0] at hm hl
    exact hk5 (g0, h13) hm _ _ _ hI (lv_sub hl [1, 2, 0, 3] rfl)
theorem r_Fill_I_5 {p : Program} {l : Launch} {e : Env} {s : State} {m : MethodId} {args : Array Value} {below : List Frame} {meth : Method} {c : Code} {G : zG} {K : Nat} (X : zX p s m args meth c "java/util/Arrays" prog_12_method_103_code 4 none G (zA G K)) {h' : zH} (a0 : Nat) (x1 : Int32) (x3 : Int32) : ∀ (n : Nat) (w : Int32 × zH), zloop (g_Fill_I_5 a0 x1 x3) n w = some h' → ∀ (H : Heap) (locs : List Loc) (ls : Array Slot), zI G K s (zA G K) H locs w.2 → lv_has ls 4 [(0, .ref (G.1 a0)), (1, .int x1), (2, .int w.1), (3, .int x3)] → W p l e (zR 0) s m args below meth c H locs 0 0 (MQ below (zQv G K h') args s 0 0 (zA G K)) (F0 m 5 ls []) := by
  intro n
  induction n with
  | zero => intro w hm; cases hm
  | succ n ih => intro w hm H locs ls hI hl; exact r_Fill_I_5_b X a0 x1 x3 (zloop (g_Fill_I_5 a0 x1 x3) n) ih w (zls hm) hI hl
set_option maxHeartbeats 4000000 in
set_option maxRecDepth 100000 in
theorem r_Fill_I_0 {p : Program} {l : Launch} {e : Env} {s : State} {m : MethodId} {args : Array Value} {below : List Frame} {meth : Method} {c : Code} {G : zG} {K : Nat} (X : zX p s m args meth c "java/util/Arrays" prog_12_method_103_code 4 none G (zA G K)) {h' : zH} (a0 : Nat) (x1 : Int32) (h : zH) (hm : m_Fill_I a0 x1 h = some h') {H : Heap} {locs : List Loc} {ls : Array Slot} (hI : zI G K s (zA G K) H locs h) (hl : lv_has ls 4 [(0, .ref (G.1 a0)), (1, .int x1)]) : W p l e (zR 0) s m args below meth c H locs 0 0 (MQ below (zQv G K h') args s 0 0 (zA G K)) (F0 m 0 ls []) := by
  obtain ⟨hx, hb, hml, hown, hts, hr, hlocks, hK, hST, hNs⟩ := id X
  unfold m_Fill_I at hm
  refine lv_iconst (v := (nI 0)) hx hb d_Fill_I_0 (by decide) ?_
  refine lv_istore_n (lv' := [(2, .int (nI 0)), (0, .ref (G.1 a0)), (1, .int x1)]) hx hb d_Fill_I_1 rfl hl (by decide) rfl (fun ls hl => ?_)
  refine lv_aload_n hx hb d_Fill_I_2 rfl (lv_at hl 1 rfl) ?_
  obtain ⟨v3, hv, hm⟩ := zbd hm
  refine z_alen X hI hv d_Fill_I_3 ?_
  refine lv_istore_n (lv' := [(3, .int v3), (2, .int (nI 0)), (0, .ref (G.1 a0)), (1, .int x1)]) hx hb d_Fill_I_4 rfl hl (by decide) rfl (fun ls hl => ?_)
  exact r_Fill_I_5 X a0 x1 v3 zN ((nI 0), h) hm _ _ _ hI (lv_sub hl [2, 3, 1, 0] rfl)
set_option maxHeartbeats 4000000 in
set_option maxRecDepth 100000 in
theorem c_Fill_I (l : Launch) (G : zG) (K : Nat) (a0 : Nat) (x1 : Int32) (h : zH) (h' : zH) (hm : m_Fill_I a0 x1 h = some h') : zMv l G K y_Fill_I prog_12_method_103_code 4 0 [.ref (G.1 a0), .int x1] h h' := zMet (by decide +kernel) (Nat.le_of_ble_eq_true rfl) (fun p e s m below meth c ls X hI hl => r_Fill_I_0 X a0 x1 h hm hI hl)
-- walk of AllHome$Rules.begin
theorem d_Rules_begin_0 : decode prog_5_method_3_code 0 = .ok (.aload_n 0, 1) := by decide +kernel
theorem d_Rules_begin_1 : decode prog_5_method_3_code 1 = .ok (.iload_n 2, 1) := by decide +kernel
theorem d_Rules_begin_2 : decode prog_5_method_3_code 2 = .ok (.invokestatic 19, 3) := by decide +kernel
theorem d_Rules_begin_5 : decode prog_5_method_3_code 5 = .ok (.ifCond .eq 7, 3) := by decide +kernel
theorem d_Rules_begin_8 : decode prog_5_method_3_code 8 = .ok (.iload_n 2, 1) := by decide +kernel
theorem d_Rules_begin_9 : decode prog_5_method_3_code 9 = .ok (.goto 4, 3) := by decide +kernel
theorem d_Rules_begin_12 : decode prog_5_method_3_code 12 = .ok (.iconst 0, 1) := by decide +kernel
theorem d_Rules_begin_13 : decode prog_5_method_3_code 13 = .ok (.putfield 23, 3) := by decide +kernel
theorem d_Rules_begin_16 : decode prog_5_method_3_code 16 = .ok (.aload_n 0, 1) := by decide +kernel
theorem d_Rules_begin_17 : decode prog_5_method_3_code 17 = .ok (.getstatic 26, 3) := by decide +kernel
theorem d_Rules_begin_20 : decode prog_5_method_3_code 20 = .ok (.aload_n 0, 1) := by decide +kernel
theorem d_Rules_begin_21 : decode prog_5_method_3_code 21 = .ok (.getfield 23, 3) := by decide +kernel
theorem d_Rules_begin_24 : decode prog_5_method_3_code 24 = .ok (.iaload, 1) := by decide +kernel
theorem d_Rules_begin_25 : decode prog_5_method_3_code 25 = .ok (.putfield 15, 3) := by decide +kernel
theorem d_Rules_begin_28 : decode prog_5_method_3_code 28 = .ok (.aload_n 1, 1) := by decide +kernel
theorem d_Rules_begin_29 : decode prog_5_method_3_code 29 = .ok (.iconst 0, 1) := by decide +kernel
theorem d_Rules_begin_30 : decode prog_5_method_3_code 30 = .ok (.invokestatic 30, 3) := by decide +kernel
theorem d_Rules_begin_33 : decode prog_5_method_3_code 33 = .ok (.aload_n 1, 1) := by decide +kernel
theorem d_Rules_begin_34 : decode prog_5_method_3_code 34 = .ok (.iconst 0, 1) := by decide +kernel
theorem d_Rules_begin_35 : decode prog_5_method_3_code 35 = .ok (.iconst 1, 1) := by decide +kernel
theorem d_Rules_begin_36 : decode prog_5_method_3_code 36 = .ok (.iastore, 1) := by decide +kernel
theorem d_Rules_begin_37 : decode prog_5_method_3_code 37 = .ok (.aload_n 1, 1) := by decide +kernel
theorem d_Rules_begin_38 : decode prog_5_method_3_code 38 = .ok (.bipush 6, 2) := by decide +kernel
theorem d_Rules_begin_40 : decode prog_5_method_3_code 40 = .ok (.iconst 1, 1) := by decide +kernel
theorem d_Rules_begin_41 : decode prog_5_method_3_code 41 = .ok (.iastore, 1) := by decide +kernel
theorem d_Rules_begin_42 : decode prog_5_method_3_code 42 = .ok (.aload_n 0, 1) := by decide +kernel
theorem d_Rules_begin_43 : decode prog_5_method_3_code 43 = .ok (.getfield 15, 3) := by decide +kernel
theorem d_Rules_begin_46 : decode prog_5_method_3_code 46 = .ok (.iconst 1, 1) := by decide +kernel
theorem d_Rules_begin_47 : decode prog_5_method_3_code 47 = .ok (.if_icmp .ne 15, 3) := by decide +kernel
theorem d_Rules_begin_50 : decode prog_5_method_3_code 50 = .ok (.aload_n 1, 1) := by decide +kernel
theorem d_Rules_begin_51 : decode prog_5_method_3_code 51 = .ok (.bipush 68, 2) := by decide +kernel
theorem d_Rules_begin_53 : decode prog_5_method_3_code 53 = .ok (.bipush 64, 2) := by decide +kernel
theorem d_Rules_begin_55 : decode prog_5_method_3_code 55 = .ok (.iastore, 1) := by decide +kernel
theorem d_Rules_begin_56 : decode prog_5_method_3_code 56 = .ok (.aload_n 1, 1) := by decide +kernel
theorem d_Rules_begin_57 : decode prog_5_method_3_code 57 = .ok (.bipush 74, 2) := by decide +kernel
theorem d_Rules_begin_59 : decode prog_5_method_3_code 59 = .ok (.bipush 64, 2) := by decide +kernel
theorem d_Rules_begin_61 : decode prog_5_method_3_code 61 = .ok (.iastore, 1) := by decide +kernel
theorem d_Rules_begin_62 : decode prog_5_method_3_code 62 = .ok (.aload_n 0, 1) := by decide +kernel
theorem d_Rules_begin_63 : decode prog_5_method_3_code 63 = .ok (.getfield 15, 3) := by decide +kernel
theorem d_Rules_begin_66 : decode prog_5_method_3_code 66 = .ok (.iconst 2, 1) := by decide +kernel
theorem d_Rules_begin_67 : decode prog_5_method_3_code 67 = .ok (.if_icmp .ne 29, 3) := by decide +kernel
theorem d_Rules_begin_70 : decode prog_5_method_3_code 70 = .ok (.aload_n 1, 1) := by decide +kernel
theorem d_Rules_begin_71 : decode prog_5_method_3_code 71 = .ok (.bipush 87, 2) := by decide +kernel
theorem d_Rules_begin_73 : decode prog_5_method_3_code 73 = .ok (.iconst 1, 1) := by decide +kernel
theorem d_Rules_begin_74 : decode prog_5_method_3_code 74 = .ok (.iastore, 1) := by decide +kernel
theorem d_Rules_begin_75 : decode prog_5_method_3_code 75 = .ok (.iconst 0, 1) := by decide +kernel
theorem d_Rules_begin_76 : decode prog_5_method_3_code 76 = .ok (.istore_n 3, 1) := by decide +kernel
theorem d_Rules_begin_77 : decode prog_5_method_3_code 77 = .ok (.iload_n 3, 1) := by decide +kernel
theorem d_Rules_begin_78 : decode prog_5_method_3_code 78 = .ok (.bipush 6, 2) := by decide +kernel
theorem d_Rules_begin_80 : decode prog_5_method_3_code 80 = .ok (.if_icmp .ge 16, 3) := by decide +kernel
theorem d_Rules_begin_83 : decode prog_5_method_3_code 83 = .ok (.aload_n 1, 1) := by decide +kernel
theorem d_Rules_begin_84 : decode prog_5_method_3_code 84 = .ok (.bipush 81, 2) := by decide +kernel
theorem d_Rules_begin_86 : decode prog_5_method_3_code 86 = .ok (.iload_n 3, 1) := by decide +kernel
theorem d_Rules_begin_87 : decode prog_5_method_3_code 87 = .ok (.iadd, 1) := by decide +kernel
theorem d_Rules_begin_88 : decode prog_5_method_3_code 88 = .ok (.iconst (-1), 1) := by decide +kernel
theorem d_Rules_begin_89 : decode prog_5_method_3_code 89 = .ok (.iastore, 1) := by decide +kernel
theorem d_Rules_begin_90 : decode prog_5_method_3_code 90 = .ok (.iinc 3 1, 3) := by decide +kernel
theorem d_Rules_begin_93 : decode prog_5_method_3_code 93 = .ok (.goto (-16), 3) := by decide +kernel
theorem d_Rules_begin_96 : decode prog_5_method_3_code 96 = .ok (.return_, 1) := by decide +kernel
set_option maxHeartbeats 4000000 in
set_option maxRecDepth 100000 in
theorem r_Rules_begin_77_b {p : Program} {l : Launch} {e : Env} {s : State} {m : MethodId} {args : Array Value} {below : List Frame} {meth : Method} {c : Code} {G : zG} {K : Nat} (X : zX p s m args meth c "AllHome$Rules" prog_5_method_3_code 4 none G (zA G K)) {h' : zH} (a1 : Nat) (k77 : (Int32 × zH) → Option zH) (hk77 : ∀ (w : Int32 × zH), k77 w = some h' → ∀ (H : Heap) (locs : List Loc) (ls : Array Slot), zI G K s (zA G K) H locs w.2 → lv_has ls 4 [(1, .ref (G.1 a1)), (3, .int w.1)] → W p l e (zR 1) s m args below meth c H locs 0 0 (MQ below (zQv G K h') args s 0 0 (zA G K)) (F0 m 77 ls [])) (u : Int32 × zH) (hm : g_Rules_begin_77 a1 k77 u = some h') {H : Heap} {locs : List Loc} {ls : Array Slot} (hI : zI G K s (zA G K) H locs u.2) (hl : lv_has ls 4 [(1, .ref (G.1 a1)), (3, .int u.1)]) : W p l e (zR 1) s m args below meth c H locs 0 0 (MQ below (zQv G K h') args s 0 0 (zA G K)) (F0 m 77 ls []) := by
  obtain ⟨hx, hb, hml, hown, hts, hr, hlocks, hK, hST, hNs⟩ := id X
  unfold g_Rules_begin_77 at hm
  refine lv_iload_n hx hb d_Rules_begin_77 rfl (lv_at hl 1 rfl) ?_
  refine lv_bipush (v := (nI 6)) hx hb d_Rules_begin_78 (by decide) ?_
  refine lv_icmp_ge (tgt := 96) hx hb d_Rules_begin_80 (by decide) (fun hc80 => ?_) (fun hc80 => ?_)
  · replace hm := zif_t hc80 hm
    obtain rfl := zs1 hm
    exact z_vret X hI d_Rules_begin_96
  · replace hm := zif_f hc80 hm
    refine lv_aload_n hx hb d_Rules_begin_83 rfl (lv_at hl 0 rfl) ?_
    refine lv_bipush (v := (nI 81)) hx hb d_Rules_begin_84 (by decide) ?_
    refine lv_iload_n hx hb d_Rules_begin_86 rfl (lv_at hl 1 rfl) ?_
    refine lv_iadd hx hb d_Rules_begin_87 ?_
    refine lv_iconst (v := (-1 : Int32)) hx hb d_Rules_begin_88 (by decide) ?_
    obtain ⟨h89, hv, hm⟩ := zbd hm
    refine z_iast X hI hv d_Rules_begin_89 (fun H locs hI => ?_)
    refine lv_iinc (v := (u.1 + (nI 1))) (lv' := [(3, .int (u.1 + (nI 1))), (1, .ref (G.1 a1))]) hx hb d_Rules_begin_90 hl (k := 1) rfl (congrArg (fun z => u.1 + z) (show Int32.ofInt (1) = (nI 1) by decide)) (by decide) rfl (fun ls hl => ?_)
    refine lv_goto (tgt := 77) hx hb d_Rules_begin_93 (by decide) ?_
    obtain ⟨g0, e0⟩ : ∃ z, z = (u.1 + (nI 1)) := ⟨_, rfl⟩
    rw [← e0] at hm hl
    exact hk77 (g0, h89) hm _ _ _ hI (lv_sub hl [1, 0] rfl)
theorem r_Rules_begin_77 {p : Program} {l : Launch} {e : Env} {s : State} {m : MethodId} {args : Array Value} {below : List Frame} {meth : Method} {c : Code} {G : zG} {K : Nat} (X : zX p s m args meth c "AllHome$Rules" prog_5_method_3_code 4 none G (zA G K)) {h' : zH} (a1 : Nat) : ∀ (n : Nat) (w : Int32 × zH), zloop (g_Rules_begin_77 a1) n w = some h' → ∀ (H : Heap) (locs : List Loc) (ls : Array Slot), zI G K s (zA G K) H locs w.2 → lv_has ls 4 [(1, .ref (G.1 a1)), (3, .int w.1)] → W p l e (zR 1) s m args below meth c H locs 0 0 (MQ below (zQv G K h') args s 0 0 (zA G K)) (F0 m 77 ls []) := by
  intro n
  induction n with
  | zero => intro w hm; cases hm
  | succ n ih => intro w hm H locs ls hI hl; exact r_Rules_begin_77_b X a1 (zloop (g_Rules_begin_77 a1) n) ih w (zls hm) hI hl
set_option maxHeartbeats 4000000 in
set_option maxRecDepth 100000 in
theorem r_Rules_begin_62 {p : Program} {l : Launch} {e : Env} {s : State} {m : MethodId} {args : Array Value} {below : List Frame} {meth : Method} {c : Code} {G : zG} {K : Nat} (X : zX p s m args meth c "AllHome$Rules" prog_5_method_3_code 4 none G (zA G K)) {h' : zH} (a0 : Nat) (a1 : Nat) (h : zH) (hm : g_Rules_begin_62 a0 a1 h = some h') {H : Heap} {locs : List Loc} {ls : Array Slot} (hI : zI G K s (zA G K) H locs h) (hl : lv_has ls 4 [(0, .ref (G.1 a0)), (1, .ref (G.1 a1))]) : W p l e (zR 1) s m args below meth c H locs 0 0 (MQ below (zQv G K h') args s 0 0 (zA G K)) (F0 m 62 ls []) := by
  obtain ⟨hx, hb, hml, hown, hts, hr, hlocks, hK, hST, hNs⟩ := id X
  unfold g_Rules_begin_62 at hm
  refine lv_aload_n hx hb d_Rules_begin_62 rfl (lv_at hl 0 rfl) ?_
  obtain ⟨v63, hv, hm⟩ := zbd hm
  refine z_getI X hI F_Rules_15 hv d_Rules_begin_63 ?_
  refine lv_iconst (v := (nI 2)) hx hb d_Rules_begin_66 (by decide) ?_
  refine lv_icmp_ne (tgt := 96) hx hb d_Rules_begin_67 (by decide) (fun hc67 => ?_) (fun hc67 => ?_)
  · replace hm := zif_f hc67 hm
    obtain rfl := zs1 hm
    exact z_vret X hI d_Rules_begin_96
  · replace hm := zif_t hc67 hm
    refine lv_aload_n hx hb d_Rules_begin_70 rfl (lv_at hl 1 rfl) ?_
    refine lv_bipush (v := (nI 87)) hx hb d_Rules_begin_71 (by decide) ?_
    refine lv_iconst (v := (nI 1)) hx hb d_Rules_begin_73 (by decide) ?_
    obtain ⟨h74, hv, hm⟩ := zbd hm
    refine z_iast X hI hv d_Rules_begin_74 (fun H locs hI => ?_)
    refine lv_iconst (v := (nI 0)) hx hb d_Rules_begin_75 (by decide) ?_
    refine lv_istore_n (lv' := [(3, .int (nI 0)), (0, .ref (G.1 a0)), (1, .ref (G.1 a1))]) hx hb d_Rules_begin_76 rfl hl (by decide) rfl (fun ls hl => ?_)
    exact r_Rules_begin_77 X a1 zN ((nI 0), h74) hm _ _ _ hI (lv_sub hl [2, 0] rfl)
set_option maxHeartbeats 4000000 in
set_option maxRecDepth 100000 in
theorem r_Rules_begin_13 {p : Program} {l : Launch} {e : Env} {s : State} {m : MethodId} {args : Array Value} {below : List Frame} {meth : Method} {c : Code} {G : zG} {K : Nat} (X : zX p s m args meth c "AllHome$Rules" prog_5_method_3_code 4 none G (zA G K)) {h' : zH} (a0 : Nat) (a1 : Nat) (c0 : Nat) (y1 : Int32) (h : zH) (hm : g_Rules_begin_13 a0 a1 c0 y1 h = some h') {H : Heap} {locs : List Loc} {ls : Array Slot} (hI : zI G K s (zA G K) H locs h) (hl : lv_has ls 4 [(0, .ref (G.1 a0)), (1, .ref (G.1 a1))]) : W p l e (zR 1) s m args below meth c H locs 0 0 (MQ below (zQv G K h') args s 0 0 (zA G K)) (F0 m 13 ls [.int y1, .ref (G.1 c0)]) := by
  obtain ⟨hx, hb, hml, hown, hts, hr, hlocks, hK, hST, hNs⟩ := id X
  unfold g_Rules_begin_13 at hm
  obtain ⟨h13, hv, hm⟩ := zbd hm
  refine z_putI X hI P_Rules_23 hv d_Rules_begin_13 (fun H locs hI => ?_)
  refine lv_aload_n hx hb d_Rules_begin_16 rfl (lv_at hl 0 rfl) ?_
  refine z_getsN X hI 1 (by decide) (List.mem_of_getElem? (i := 4) rfl) d_Rules_begin_17 ?_
  refine lv_aload_n hx hb d_Rules_begin_20 rfl (lv_at hl 0 rfl) ?_
  obtain ⟨v21, hv, hm⟩ := zbd hm
  refine z_getI X hI F_Rules_23 hv d_Rules_begin_21 ?_
  obtain ⟨v24, hv, hm⟩ := zbd hm
  refine z_tab X hI 1 (by decide) hv d_Rules_begin_24 ?_
  obtain ⟨h25, hv, hm⟩ := zbd hm
  refine z_putI X hI P_Rules_15 hv d_Rules_begin_25 (fun H locs hI => ?_)
  refine lv_aload_n hx hb d_Rules_begin_28 rfl (lv_at hl 1 rfl) ?_
  refine lv_iconst (v := (nI 0)) hx hb d_Rules_begin_29 (by decide) ?_
  obtain ⟨h30, hv, hm⟩ := zbd hm
  refine z_cv hI (z_runS (As := [.ref (G.1 a1), .int (nI 0)]) (rest := []) X hI hl.1 (c_Fill_I l G K a1 (nI 0) h25 _ hv) C_Rules_30 rfl (Nat.le_of_ble_eq_true rfl) ⟨Nat.le_of_ble_eq_true rfl, Nat.le_of_ble_eq_true rfl, Nat.zero_le _, Nat.zero_le _⟩ rfl d_Rules_begin_30) (fun H locs hI => ?_)
  refine lv_aload_n hx hb d_Rules_begin_33 rfl (lv_at hl 1 rfl) ?_
  refine lv_iconst (v := (nI 0)) hx hb d_Rules_begin_34 (by decide) ?_
  refine lv_iconst (v := (nI 1)) hx hb d_Rules_begin_35 (by decide) ?_
  obtain ⟨h36, hv, hm⟩ := zbd hm
  refine z_iast X hI hv d_Rules_begin_36 (fun H locs hI => ?_)
  refine lv_aload_n hx hb d_Rules_begin_37 rfl (lv_at hl 1 rfl) ?_
  refine lv_bipush (v := (nI 6)) hx hb d_Rules_begin_38 (by decide) ?_
  refine lv_iconst (v := (nI 1)) hx hb d_Rules_begin_40 (by decide) ?_
  obtain ⟨h41, hv, hm⟩ := zbd hm
  refine z_iast X hI hv d_Rules_begin_41 (fun H locs hI => ?_)
  refine lv_aload_n hx hb d_Rules_begin_42 rfl (lv_at hl 0 rfl) ?_
  obtain ⟨v43, hv, hm⟩ := zbd hm
  refine z_getI X hI F_Rules_15 hv d_Rules_begin_43 ?_
  refine lv_iconst (v := (nI 1)) hx hb d_Rules_begin_46 (by decide) ?_
  refine lv_icmp_ne (tgt := 62) hx hb d_Rules_begin_47 (by decide) (fun hc47 => ?_) (fun hc47 => ?_)
  · replace hm := zif_f hc47 hm
    exact r_Rules_begin_62 X a0 a1 h41 hm hI (lv_sub hl [0, 1] rfl)
  · replace hm := zif_t hc47 hm
    refine lv_aload_n hx hb d_Rules_begin_50 rfl (lv_at hl 1 rfl) ?_
    refine lv_bipush (v := (nI 68)) hx hb d_Rules_begin_51 (by decide) ?_
    refine lv_bipush (v := (nI 64)) hx hb d_Rules_begin_53 (by decide) ?_
    obtain ⟨h55, hv, hm⟩ := zbd hm
    refine z_iast X hI hv d_Rules_begin_55 (fun H locs hI => ?_)
    refine lv_aload_n hx hb d_Rules_begin_56 rfl (lv_at hl 1 rfl) ?_
    refine lv_bipush (v := (nI 74)) hx hb d_Rules_begin_57 (by decide) ?_
    refine lv_bipush (v := (nI 64)) hx hb d_Rules_begin_59 (by decide) ?_
    obtain ⟨h61, hv, hm⟩ := zbd hm
    refine z_iast X hI hv d_Rules_begin_61 (fun H locs hI => ?_)
    exact r_Rules_begin_62 X a0 a1 h61 hm hI (lv_sub hl [0, 1] rfl)
set_option maxHeartbeats 4000000 in
set_option maxRecDepth 100000 in
theorem r_Rules_begin_0 {p : Program} {l : Launch} {e : Env} {s : State} {m : MethodId} {args : Array Value} {below : List Frame} {meth : Method} {c : Code} {G : zG} {K : Nat} (X : zX p s m args meth c "AllHome$Rules" prog_5_method_3_code 4 none G (zA G K)) {h' : zH} (a0 : Nat) (a1 : Nat) (x2 : Int32) (h : zH) (hm : m_Rules_begin a0 a1 x2 h = some h') {H : Heap} {locs : List Loc} {ls : Array Slot} (hI : zI G K s (zA G K) H locs h) (hl : lv_has ls 4 [(0, .ref (G.1 a0)), (1, .ref (G.1 a1)), (2, .int x2)]) : W p l e (zR 1) s m args below meth c H locs 0 0 (MQ below (zQv G K h') args s 0 0 (zA G K)) (F0 m 0 ls []) := by
  obtain ⟨hx, hb, hml, hown, hts, hr, hlocks, hK, hST, hNs⟩ := id X
  unfold m_Rules_begin at hm
  refine lv_aload_n hx hb d_Rules_begin_0 rfl (lv_at hl 0 rfl) ?_
  refine lv_iload_n hx hb d_Rules_begin_1 rfl (lv_at hl 2 rfl) ?_
  obtain ⟨v2, hv, hm⟩ := zbd hm
  refine z_ci hI (z_runN (As := [.int x2]) (rest := [.ref (G.1 a0)]) X hI hl.1 (c_Home_isKind l G K x2 h _ hv) C_Rules_19 rfl (Nat.le_of_ble_eq_true rfl) ⟨Nat.le_of_ble_eq_true rfl, Nat.le_of_ble_eq_true rfl, Nat.zero_le _, Nat.zero_le _⟩ rfl d_Rules_begin_2) (fun H locs hI => ?_)
  refine lv_if_eq (tgt := 12) hx hb d_Rules_begin_5 (by decide) (fun hc5 => ?_) (fun hc5 => ?_)
  · replace hm := zif_t hc5 hm
    refine lv_iconst (v := (nI 0)) hx hb d_Rules_begin_12 (by decide) ?_
    exact r_Rules_begin_13 X a0 a1 a0 (nI 0) h hm hI (lv_sub hl [0, 1] rfl)
  · replace hm := zif_f hc5 hm
    refine lv_iload_n hx hb d_Rules_begin_8 rfl (lv_at hl 2 rfl) ?_
    refine lv_goto (tgt := 13) hx hb d_Rules_begin_9 (by decide) ?_
    exact r_Rules_begin_13 X a0 a1 a0 x2 h hm hI (lv_sub hl [0, 1] rfl)
set_option maxHeartbeats 4000000 in
set_option maxRecDepth 100000 in
theorem c_Rules_begin (l : Launch) (G : zG) (K : Nat) (a0 : Nat) (a1 : Nat) (x2 : Int32) (h : zH) (h' : zH) (hm : m_Rules_begin a0 a1 x2 h = some h') : zMv l G K y_Rules_begin prog_5_method_3_code 4 1 [.ref (G.1 a0), .ref (G.1 a1), .int x2] h h' := zMet (by decide +kernel) (Nat.le_of_ble_eq_true rfl) (fun p e s m below meth c ls X hI hl => r_Rules_begin_0 X a0 a1 x2 h hm hI hl)
