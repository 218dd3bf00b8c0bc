-- walk of AllHomeModel.tells
theorem d_Model_tells_0 : decode prog_9_method_65_code 0 = .ok (.iload_n 1, 1) := by decide +kernel
theorem d_Model_tells_1 : decode prog_9_method_65_code 1 = .ok (.lookupswitch 109 #[(0, 35), (5, 72), (8, 90)], 35) := by decide +kernel
theorem d_Model_tells_36 : decode prog_9_method_65_code 36 = .ok (.aload_n 0, 1) := by decide +kernel
theorem d_Model_tells_37 : decode prog_9_method_65_code 37 = .ok (.iconst 2, 1) := by decide +kernel
theorem d_Model_tells_38 : decode prog_9_method_65_code 38 = .ok (.invokevirtual 267, 3) := by decide +kernel
theorem d_Model_tells_41 : decode prog_9_method_65_code 41 = .ok (.aload_n 0, 1) := by decide +kernel
theorem d_Model_tells_42 : decode prog_9_method_65_code 42 = .ok (.aload_n 0, 1) := by decide +kernel
theorem d_Model_tells_43 : decode prog_9_method_65_code 43 = .ok (.getfield 19, 3) := by decide +kernel
theorem d_Model_tells_46 : decode prog_9_method_65_code 46 = .ok (.aload_n 0, 1) := by decide +kernel
theorem d_Model_tells_47 : decode prog_9_method_65_code 47 = .ok (.getfield 270, 3) := by decide +kernel
theorem d_Model_tells_50 : decode prog_9_method_65_code 50 = .ok (.iaload, 1) := by decide +kernel
theorem d_Model_tells_51 : decode prog_9_method_65_code 51 = .ok (.iload_n 2, 1) := by decide +kernel
theorem d_Model_tells_52 : decode prog_9_method_65_code 52 = .ok (.invokevirtual 276, 3) := by decide +kernel
theorem d_Model_tells_55 : decode prog_9_method_65_code 55 = .ok (.istore_n 3, 1) := by decide +kernel
theorem d_Model_tells_56 : decode prog_9_method_65_code 56 = .ok (.iload_n 3, 1) := by decide +kernel
theorem d_Model_tells_57 : decode prog_9_method_65_code 57 = .ok (.aload_n 0, 1) := by decide +kernel
theorem d_Model_tells_58 : decode prog_9_method_65_code 58 = .ok (.aload_n 0, 1) := by decide +kernel
theorem d_Model_tells_59 : decode prog_9_method_65_code 59 = .ok (.getfield 19, 3) := by decide +kernel
theorem d_Model_tells_62 : decode prog_9_method_65_code 62 = .ok (.aload_n 0, 1) := by decide +kernel
theorem d_Model_tells_63 : decode prog_9_method_65_code 63 = .ok (.getfield 270, 3) := by decide +kernel
theorem d_Model_tells_66 : decode prog_9_method_65_code 66 = .ok (.iaload, 1) := by decide +kernel
theorem d_Model_tells_67 : decode prog_9_method_65_code 67 = .ok (.iconst 1, 1) := by decide +kernel
theorem d_Model_tells_68 : decode prog_9_method_65_code 68 = .ok (.invokevirtual 279, 3) := by decide +kernel
theorem d_Model_tells_71 : decode prog_9_method_65_code 71 = .ok (.isub, 1) := by decide +kernel
theorem d_Model_tells_72 : decode prog_9_method_65_code 72 = .ok (.ireturn, 1) := by decide +kernel
theorem d_Model_tells_73 : decode prog_9_method_65_code 73 = .ok (.aload_n 0, 1) := by decide +kernel
theorem d_Model_tells_74 : decode prog_9_method_65_code 74 = .ok (.bipush 60, 2) := by decide +kernel
theorem d_Model_tells_76 : decode prog_9_method_65_code 76 = .ok (.invokevirtual 267, 3) := by decide +kernel
theorem d_Model_tells_79 : decode prog_9_method_65_code 79 = .ok (.aload_n 0, 1) := by decide +kernel
theorem d_Model_tells_80 : decode prog_9_method_65_code 80 = .ok (.iconst 5, 1) := by decide +kernel
theorem d_Model_tells_81 : decode prog_9_method_65_code 81 = .ok (.invokestatic 131, 3) := by decide +kernel
theorem d_Model_tells_84 : decode prog_9_method_65_code 84 = .ok (.iload_n 2, 1) := by decide +kernel
theorem d_Model_tells_85 : decode prog_9_method_65_code 85 = .ok (.invokevirtual 282, 3) := by decide +kernel
theorem d_Model_tells_88 : decode prog_9_method_65_code 88 = .ok (.iconst 5, 1) := by decide +kernel
theorem d_Model_tells_89 : decode prog_9_method_65_code 89 = .ok (.ixor, 1) := by decide +kernel
theorem d_Model_tells_90 : decode prog_9_method_65_code 90 = .ok (.ireturn, 1) := by decide +kernel
theorem d_Model_tells_91 : decode prog_9_method_65_code 91 = .ok (.aload_n 0, 1) := by decide +kernel
theorem d_Model_tells_92 : decode prog_9_method_65_code 92 = .ok (.bipush 90, 2) := by decide +kernel
theorem d_Model_tells_94 : decode prog_9_method_65_code 94 = .ok (.invokevirtual 267, 3) := by decide +kernel
theorem d_Model_tells_97 : decode prog_9_method_65_code 97 = .ok (.aload_n 0, 1) := by decide +kernel
theorem d_Model_tells_98 : decode prog_9_method_65_code 98 = .ok (.bipush 8, 2) := by decide +kernel
theorem d_Model_tells_100 : decode prog_9_method_65_code 100 = .ok (.invokestatic 131, 3) := by decide +kernel
theorem d_Model_tells_103 : decode prog_9_method_65_code 103 = .ok (.iload_n 2, 1) := by decide +kernel
theorem d_Model_tells_104 : decode prog_9_method_65_code 104 = .ok (.invokevirtual 282, 3) := by decide +kernel
theorem d_Model_tells_107 : decode prog_9_method_65_code 107 = .ok (.iconst 2, 1) := by decide +kernel
theorem d_Model_tells_108 : decode prog_9_method_65_code 108 = .ok (.imul, 1) := by decide +kernel
theorem d_Model_tells_109 : decode prog_9_method_65_code 109 = .ok (.ireturn, 1) := by decide +kernel
theorem d_Model_tells_110 : decode prog_9_method_65_code 110 = .ok (.aload_n 0, 1) := by decide +kernel
theorem d_Model_tells_111 : decode prog_9_method_65_code 111 = .ok (.iload_n 1, 1) := by decide +kernel
theorem d_Model_tells_112 : decode prog_9_method_65_code 112 = .ok (.invokestatic 131, 3) := by decide +kernel
theorem d_Model_tells_115 : decode prog_9_method_65_code 115 = .ok (.iload_n 2, 1) := by decide +kernel
theorem d_Model_tells_116 : decode prog_9_method_65_code 116 = .ok (.invokevirtual 282, 3) := by decide +kernel
theorem d_Model_tells_119 : decode prog_9_method_65_code 119 = .ok (.ireturn, 1) := by decide +kernel
set_option maxHeartbeats 4000000 in
set_option maxRecDepth 100000 in
theorem r_Model_tells_0 {p : Program} {l : Launch} {e : Env} {s : State} {m : MethodId} {args : Array Value} {below : List Frame} {meth : Method} {c : Code} {G : zG} {K : Nat} {n0 : Nat} (X : zX p s m args meth c "AllHomeModel" prog_9_method_65_code 4 (some .int) G (zA G K)) {r : Int32} {h' : zH} (kk : (Nat × Int32 × Int32 × zH) → Option (Int32 × zH)) (hkk : ∀ (w : Nat × Int32 × Int32 × zH) (r : Int32) (h' : zH), kk w = some (r, h') → zMi l G K y_Model_tells prog_9_method_65_code 4 (n0 + 83) [.ref (G.1 w.1), .int w.2.1, .int w.2.2.1] w.2.2.2 r h') (u : Nat × Int32 × Int32 × zH) (hm : g_Model_tells_0 kk u = some (r, h')) {H : Heap} {locs : List Loc} {ls : Array Slot} (hI : zI G K s (zA G K) H locs u.2.2.2) (hl : lv_has ls 4 [(0, .ref (G.1 u.1)), (1, .int u.2.1), (2, .int u.2.2.1)]) : W p l e (zR (n0 + 84)) s m args below meth c H locs 0 0 (MQ below (zQi G K r h') args s 0 0 (zA G K)) (F0 m 0 ls []) := by
  obtain ⟨hx, hb, hml, hown, hts, hr, hlocks, hK, hST, hNs⟩ := id X
  unfold g_Model_tells_0 at hm
  refine lv_iload_n hx hb d_Model_tells_0 rfl (lv_at hl 1 rfl) ?_
  by_cases hs1_0 : u.2.1 = (nI 0)
  · replace hm := zif_t hs1_0 hm
    refine lv_lookup (off := 35) (tgt := 36) hx hb d_Model_tells_1 (by decide) (by rw [hs1_0]; decide) (by decide) ?_
    refine lv_aload_n hx hb d_Model_tells_36 rfl (lv_at hl 0 rfl) ?_
    refine lv_iconst (v := (nI 2)) hx hb d_Model_tells_37 (by decide) ?_
    obtain ⟨h38, hv, hm⟩ := zbd hm
    obtain ⟨hq, hv⟩ := zcv_at hv
    refine z_cv hI (z_runV (As := [.int (nI 2)]) (rest := []) X hI hl.1 (c_Model_ranBody l G K u.1 (nI 2) u.2.2.2 _ hv) C_Model_267 rfl hq (Nat.le_of_ble_eq_true rfl) ⟨by simp only [zR]; omega, by simp only [zR]; omega, Nat.zero_le _, Nat.zero_le _⟩ rfl d_Model_tells_38) (fun H locs hI => ?_)
    refine lv_aload_n hx hb d_Model_tells_41 rfl (lv_at hl 0 rfl) ?_
    refine lv_aload_n hx hb d_Model_tells_42 rfl (lv_at hl 0 rfl) ?_
    obtain ⟨v43, hv, hm⟩ := zbd hm
    refine z_getR X hI F_Model_19 hv d_Model_tells_43 ?_
    refine lv_aload_n hx hb d_Model_tells_46 rfl (lv_at hl 0 rfl) ?_
    obtain ⟨v47, hv, hm⟩ := zbd hm
    refine z_getI X hI F_Model_270 hv d_Model_tells_47 ?_
    obtain ⟨v50, hv, hm⟩ := zbd hm
    refine z_iald X hI hv d_Model_tells_50 ?_
    refine lv_iload_n hx hb d_Model_tells_51 rfl (lv_at hl 2 rfl) ?_
    obtain ⟨v52, h52, hv, hm⟩ := zb2_at hm
    obtain ⟨hq, hv⟩ := zcv_at hv
    refine z_ci hI (z_runV (As := [.int v50, .int u.2.2.1]) (rest := []) X hI hl.1 (c_Model_asksOf l G K 40 u.1 v50 u.2.2.1 h38 _ _ hv) C_Model_276 rfl hq (Nat.le_of_ble_eq_true rfl) ⟨by simp only [zR]; omega, by simp only [zR]; omega, Nat.zero_le _, Nat.zero_le _⟩ rfl d_Model_tells_52) (fun H locs hI => ?_)
    refine lv_istore_n (lv' := [(3, .int v52), (0, .ref (G.1 u.1)), (1, .int u.2.1), (2, .int u.2.2.1)]) hx hb d_Model_tells_55 rfl hl (by decide) rfl (fun ls hl => ?_)
    refine lv_iload_n hx hb d_Model_tells_56 rfl (lv_at hl 0 rfl) ?_
    refine lv_aload_n hx hb d_Model_tells_57 rfl (lv_at hl 1 rfl) ?_
    refine lv_aload_n hx hb d_Model_tells_58 rfl (lv_at hl 1 rfl) ?_
    obtain ⟨v59, hv, hm⟩ := zbd hm
    refine z_getR X hI F_Model_19 hv d_Model_tells_59 ?_
    refine lv_aload_n hx hb d_Model_tells_62 rfl (lv_at hl 1 rfl) ?_
    obtain ⟨v63, hv, hm⟩ := zbd hm
    refine z_getI X hI F_Model_270 hv d_Model_tells_63 ?_
    obtain ⟨v66, hv, hm⟩ := zbd hm
    refine z_iald X hI hv d_Model_tells_66 ?_
    refine lv_iconst (v := (nI 1)) hx hb d_Model_tells_67 (by decide) ?_
    obtain ⟨v68, h68, hv, hm⟩ := zb2_at hm
    obtain ⟨hq, hv⟩ := zcv_at hv
    refine z_ci hI (z_runV (As := [.int v66, .int (nI 1)]) (rest := [.int v52]) X hI hl.1 (c_Model_owes l G K 40 u.1 v66 (nI 1) h52 _ _ hv) C_Model_279 rfl hq (Nat.le_of_ble_eq_true rfl) ⟨by simp only [zR]; omega, by simp only [zR]; omega, Nat.zero_le _, Nat.zero_le _⟩ rfl d_Model_tells_68) (fun H locs hI => ?_)
    refine lv_isub hx hb d_Model_tells_71 ?_
    obtain ⟨rfl, rfl⟩ := zs2 hm
    exact z_iret X hI d_Model_tells_72
  · replace hm := zif_f hs1_0 hm
    by_cases hs1_1 : u.2.1 = (nI 5)
    · replace hm := zif_t hs1_1 hm
      refine lv_lookup (off := 72) (tgt := 73) hx hb d_Model_tells_1 (by decide) (by rw [hs1_1]; decide) (by decide) ?_
      refine lv_aload_n hx hb d_Model_tells_73 rfl (lv_at hl 0 rfl) ?_
      refine lv_bipush (v := (nI 60)) hx hb d_Model_tells_74 (by decide) ?_
      obtain ⟨h76, hv, hm⟩ := zbd hm
      obtain ⟨hq, hv⟩ := zcv_at hv
      refine z_cv hI (z_runV (As := [.int (nI 60)]) (rest := []) X hI hl.1 (c_Model_ranBody l G K u.1 (nI 60) u.2.2.2 _ hv) C_Model_267 rfl hq (Nat.le_of_ble_eq_true rfl) ⟨by simp only [zR]; omega, by simp only [zR]; omega, Nat.zero_le _, Nat.zero_le _⟩ rfl d_Model_tells_76) (fun H locs hI => ?_)
      refine lv_aload_n hx hb d_Model_tells_79 rfl (lv_at hl 0 rfl) ?_
      refine lv_iconst (v := (nI 5)) hx hb d_Model_tells_80 (by decide) ?_
      obtain ⟨v81, hv, hm⟩ := zbd hm
      refine z_ci hI (z_runS (As := [.int (nI 5)]) (rest := [.ref (G.1 u.1)]) X hI hl.1 (c_Model_above l G K (nI 5) h76 _ hv) C_Model_131 rfl (Nat.le_of_ble_eq_true rfl) ⟨by simp only [zR]; omega, by simp only [zR]; omega, Nat.zero_le _, Nat.zero_le _⟩ rfl d_Model_tells_81) (fun H locs hI => ?_)
      refine lv_iload_n hx hb d_Model_tells_84 rfl (lv_at hl 2 rfl) ?_
      obtain ⟨v85, h85, hv, hm⟩ := zb2_at hm
      obtain ⟨hq, hv⟩ := zcv_at hv
      refine z_ci hI (z_runV (As := [.int v81, .int u.2.2.1]) (rest := []) X hI hl.1 (hkk _ _ _ hv) C_Model_282 rfl hq (Nat.le_of_ble_eq_true rfl) ⟨by simp only [zR]; omega, by simp only [zR]; omega, Nat.zero_le _, Nat.zero_le _⟩ rfl d_Model_tells_85) (fun H locs hI => ?_)
      refine lv_iconst (v := (nI 5)) hx hb d_Model_tells_88 (by decide) ?_
      refine lv_ixor hx hb d_Model_tells_89 ?_
      obtain ⟨rfl, rfl⟩ := zs2 hm
      exact z_iret X hI d_Model_tells_90
    · replace hm := zif_f hs1_1 hm
      by_cases hs1_2 : u.2.1 = (nI 8)
      · replace hm := zif_t hs1_2 hm
        refine lv_lookup (off := 90) (tgt := 91) hx hb d_Model_tells_1 (by decide) (by rw [hs1_2]; decide) (by decide) ?_
        refine lv_aload_n hx hb d_Model_tells_91 rfl (lv_at hl 0 rfl) ?_
        refine lv_bipush (v := (nI 90)) hx hb d_Model_tells_92 (by decide) ?_
        obtain ⟨h94, hv, hm⟩ := zbd hm
        obtain ⟨hq, hv⟩ := zcv_at hv
        refine z_cv hI (z_runV (As := [.int (nI 90)]) (rest := []) X hI hl.1 (c_Model_ranBody l G K u.1 (nI 90) u.2.2.2 _ hv) C_Model_267 rfl hq (Nat.le_of_ble_eq_true rfl) ⟨by simp only [zR]; omega, by simp only [zR]; omega, Nat.zero_le _, Nat.zero_le _⟩ rfl d_Model_tells_94) (fun H locs hI => ?_)
        refine lv_aload_n hx hb d_Model_tells_97 rfl (lv_at hl 0 rfl) ?_
        refine lv_bipush (v := (nI 8)) hx hb d_Model_tells_98 (by decide) ?_
        obtain ⟨v100, hv, hm⟩ := zbd hm
        refine z_ci hI (z_runS (As := [.int (nI 8)]) (rest := [.ref (G.1 u.1)]) X hI hl.1 (c_Model_above l G K (nI 8) h94 _ hv) C_Model_131 rfl (Nat.le_of_ble_eq_true rfl) ⟨by simp only [zR]; omega, by simp only [zR]; omega, Nat.zero_le _, Nat.zero_le _⟩ rfl d_Model_tells_100) (fun H locs hI => ?_)
        refine lv_iload_n hx hb d_Model_tells_103 rfl (lv_at hl 2 rfl) ?_
        obtain ⟨v104, h104, hv, hm⟩ := zb2_at hm
        obtain ⟨hq, hv⟩ := zcv_at hv
        refine z_ci hI (z_runV (As := [.int v100, .int u.2.2.1]) (rest := []) X hI hl.1 (hkk _ _ _ hv) C_Model_282 rfl hq (Nat.le_of_ble_eq_true rfl) ⟨by simp only [zR]; omega, by simp only [zR]; omega, Nat.zero_le _, Nat.zero_le _⟩ rfl d_Model_tells_104) (fun H locs hI => ?_)
        refine lv_iconst (v := (nI 2)) hx hb d_Model_tells_107 (by decide) ?_
        refine lv_imul hx hb d_Model_tells_108 ?_
        obtain ⟨rfl, rfl⟩ := zs2 hm
        exact z_iret X hI d_Model_tells_109
      · replace hm := zif_f hs1_2 hm
        have he0 : ¬ (0 : Int) = (u.2.1).toInt := fun q => hs1_0 (Int32.toInt_inj.mp (q.symm.trans (by decide)))
        have he1 : ¬ (5 : Int) = (u.2.1).toInt := fun q => hs1_1 (Int32.toInt_inj.mp (q.symm.trans (by decide)))
        have he2 : ¬ (8 : Int) = (u.2.1).toInt := fun q => hs1_2 (Int32.toInt_inj.mp (q.symm.trans (by decide)))
        refine lv_lookup (off := 109) (tgt := 110) hx hb d_Model_tells_1 (by decide) (by simp [Op.lookupswitch.offset, List.find?, he0, he1, he2]) (by decide) ?_
        refine lv_aload_n hx hb d_Model_tells_110 rfl (lv_at hl 0 rfl) ?_
        refine lv_iload_n hx hb d_Model_tells_111 rfl (lv_at hl 1 rfl) ?_
        obtain ⟨v112, hv, hm⟩ := zbd hm
        refine z_ci hI (z_runS (As := [.int u.2.1]) (rest := [.ref (G.1 u.1)]) X hI hl.1 (c_Model_above l G K u.2.1 u.2.2.2 _ hv) C_Model_131 rfl (Nat.le_of_ble_eq_true rfl) ⟨by simp only [zR]; omega, by simp only [zR]; omega, Nat.zero_le _, Nat.zero_le _⟩ rfl d_Model_tells_112) (fun H locs hI => ?_)
        refine lv_iload_n hx hb d_Model_tells_115 rfl (lv_at hl 2 rfl) ?_
        obtain ⟨v116, h116, hv, hm⟩ := zb2_at hm
        obtain ⟨hq, hv⟩ := zcv_at hv
        refine z_ci hI (z_runV (As := [.int v112, .int u.2.2.1]) (rest := []) X hI hl.1 (hkk _ _ _ hv) C_Model_282 rfl hq (Nat.le_of_ble_eq_true rfl) ⟨by simp only [zR]; omega, by simp only [zR]; omega, Nat.zero_le _, Nat.zero_le _⟩ rfl d_Model_tells_116) (fun H locs hI => ?_)
        obtain ⟨rfl, rfl⟩ := zs2 hm
        exact z_iret X hI d_Model_tells_119
set_option maxHeartbeats 4000000 in
set_option maxRecDepth 100000 in
theorem cz_Model_tells (l : Launch) (G : zG) (K : Nat) : ∀ (n : Nat) (w : Nat × Int32 × Int32 × zH) (r : Int32) (h' : zH), zloop g_Model_tells_0 n w = some (r, h') → zMi l G K y_Model_tells prog_9_method_65_code 4 (n + 83) [.ref (G.1 w.1), .int w.2.1, .int w.2.2.1] w.2.2.2 r h' := by
  intro n
  induction n with
  | zero => intro w r h' hm; cases hm
  | succ n ih =>
    intro w r h' hm
    have hm : g_Model_tells_0 (zloop g_Model_tells_0 n) w = some (r, h') := zls hm
    have E : n + 1 + 83 = n + 84 := by omega
    rw [E]
    exact zMet (by decide +kernel) (Nat.le_of_ble_eq_true rfl) (fun p e s m below meth c ls X hI hl => r_Model_tells_0 (n0 := n) X (zloop g_Model_tells_0 n) ih w hm hI hl)
theorem c_Model_tells (l : Launch) (G : zG) (K : Nat) (n : Nat) (a0 : Nat) (x1 : Int32) (x2 : Int32) (h : zH) (r : Int32) (h' : zH) (hm : m_Model_tells n a0 x1 x2 h = some (r, h')) : zMi l G K y_Model_tells prog_9_method_65_code 4 (n + 83) [.ref (G.1 a0), .int x1, .int x2] h r h' := cz_Model_tells l G K n (a0, x1, x2, h) r h' hm
-- walk of AllHomeModel.act
theorem d_Model_act_0 : decode prog_9_method_66_code 0 = .ok (.aload_n 0, 1) := by decide +kernel
theorem d_Model_act_1 : decode prog_9_method_66_code 1 = .ok (.iconst 0, 1) := by decide +kernel
theorem d_Model_act_2 : decode prog_9_method_66_code 2 = .ok (.putfield 264, 3) := by decide +kernel
theorem d_Model_act_5 : decode prog_9_method_66_code 5 = .ok (.aload_n 0, 1) := by decide +kernel
theorem d_Model_act_6 : decode prog_9_method_66_code 6 = .ok (.iload_n 1, 1) := by decide +kernel
theorem d_Model_act_7 : decode prog_9_method_66_code 7 = .ok (.invokevirtual 128, 3) := by decide +kernel
theorem d_Model_act_10 : decode prog_9_method_66_code 10 = .ok (.ifCond .eq 15, 3) := by decide +kernel
theorem d_Model_act_13 : decode prog_9_method_66_code 13 = .ok (.iload_n 2, 1) := by decide +kernel
theorem d_Model_act_14 : decode prog_9_method_66_code 14 = .ok (.i2l, 1) := by decide +kernel
theorem d_Model_act_15 : decode prog_9_method_66_code 15 = .ok (.lconst 0, 1) := by decide +kernel
theorem d_Model_act_16 : decode prog_9_method_66_code 16 = .ok (.ldc2_w 285, 3) := by decide +kernel
theorem d_Model_act_19 : decode prog_9_method_66_code 19 = .ok (.invokestatic 87, 3) := by decide +kernel
theorem d_Model_act_22 : decode prog_9_method_66_code 22 = .ok (.ifCond .ne 5, 3) := by decide +kernel
theorem d_Model_act_25 : decode prog_9_method_66_code 25 = .ok (.iconst 0, 1) := by decide +kernel
theorem d_Model_act_26 : decode prog_9_method_66_code 26 = .ok (.ireturn, 1) := by decide +kernel
theorem d_Model_act_27 : decode prog_9_method_66_code 27 = .ok (.aload_n 0, 1) := by decide +kernel
theorem d_Model_act_28 : decode prog_9_method_66_code 28 = .ok (.iload_n 1, 1) := by decide +kernel
theorem d_Model_act_29 : decode prog_9_method_66_code 29 = .ok (.putfield 270, 3) := by decide +kernel
theorem d_Model_act_32 : decode prog_9_method_66_code 32 = .ok (.iload_n 2, 1) := by decide +kernel
theorem d_Model_act_33 : decode prog_9_method_66_code 33 = .ok (.ifCond .ne 17, 3) := by decide +kernel
theorem d_Model_act_36 : decode prog_9_method_66_code 36 = .ok (.aload_n 0, 1) := by decide +kernel
theorem d_Model_act_37 : decode prog_9_method_66_code 37 = .ok (.aload_n 0, 1) := by decide +kernel
theorem d_Model_act_38 : decode prog_9_method_66_code 38 = .ok (.getfield 19, 3) := by decide +kernel
theorem d_Model_act_41 : decode prog_9_method_66_code 41 = .ok (.iload_n 1, 1) := by decide +kernel
theorem d_Model_act_42 : decode prog_9_method_66_code 42 = .ok (.iaload, 1) := by decide +kernel
theorem d_Model_act_43 : decode prog_9_method_66_code 43 = .ok (.iload_n 3, 1) := by decide +kernel
theorem d_Model_act_44 : decode prog_9_method_66_code 44 = .ok (.invokevirtual 273, 3) := by decide +kernel
theorem d_Model_act_47 : decode prog_9_method_66_code 47 = .ok (.goto 52, 3) := by decide +kernel
theorem d_Model_act_50 : decode prog_9_method_66_code 50 = .ok (.iload_n 2, 1) := by decide +kernel
theorem d_Model_act_51 : decode prog_9_method_66_code 51 = .ok (.iconst 1, 1) := by decide +kernel
theorem d_Model_act_52 : decode prog_9_method_66_code 52 = .ok (.if_icmp .ne 17, 3) := by decide +kernel
theorem d_Model_act_55 : decode prog_9_method_66_code 55 = .ok (.aload_n 0, 1) := by decide +kernel
theorem d_Model_act_56 : decode prog_9_method_66_code 56 = .ok (.aload_n 0, 1) := by decide +kernel
theorem d_Model_act_57 : decode prog_9_method_66_code 57 = .ok (.getfield 19, 3) := by decide +kernel
theorem d_Model_act_60 : decode prog_9_method_66_code 60 = .ok (.iload_n 1, 1) := by decide +kernel
theorem d_Model_act_61 : decode prog_9_method_66_code 61 = .ok (.iaload, 1) := by decide +kernel
theorem d_Model_act_62 : decode prog_9_method_66_code 62 = .ok (.iload_n 3, 1) := by decide +kernel
theorem d_Model_act_63 : decode prog_9_method_66_code 63 = .ok (.invokevirtual 276, 3) := by decide +kernel
theorem d_Model_act_66 : decode prog_9_method_66_code 66 = .ok (.goto 33, 3) := by decide +kernel
theorem d_Model_act_69 : decode prog_9_method_66_code 69 = .ok (.iload_n 2, 1) := by decide +kernel
theorem d_Model_act_70 : decode prog_9_method_66_code 70 = .ok (.iconst 2, 1) := by decide +kernel
theorem d_Model_act_71 : decode prog_9_method_66_code 71 = .ok (.if_icmp .ne 17, 3) := by decide +kernel
theorem d_Model_act_74 : decode prog_9_method_66_code 74 = .ok (.aload_n 0, 1) := by decide +kernel
theorem d_Model_act_75 : decode prog_9_method_66_code 75 = .ok (.aload_n 0, 1) := by decide +kernel
theorem d_Model_act_76 : decode prog_9_method_66_code 76 = .ok (.getfield 19, 3) := by decide +kernel
theorem d_Model_act_79 : decode prog_9_method_66_code 79 = .ok (.iload_n 1, 1) := by decide +kernel
theorem d_Model_act_80 : decode prog_9_method_66_code 80 = .ok (.iaload, 1) := by decide +kernel
theorem d_Model_act_81 : decode prog_9_method_66_code 81 = .ok (.iload_n 3, 1) := by decide +kernel
theorem d_Model_act_82 : decode prog_9_method_66_code 82 = .ok (.invokevirtual 279, 3) := by decide +kernel
theorem d_Model_act_85 : decode prog_9_method_66_code 85 = .ok (.goto 14, 3) := by decide +kernel
theorem d_Model_act_88 : decode prog_9_method_66_code 88 = .ok (.aload_n 0, 1) := by decide +kernel
theorem d_Model_act_89 : decode prog_9_method_66_code 89 = .ok (.aload_n 0, 1) := by decide +kernel
theorem d_Model_act_90 : decode prog_9_method_66_code 90 = .ok (.getfield 19, 3) := by decide +kernel
theorem d_Model_act_93 : decode prog_9_method_66_code 93 = .ok (.iload_n 1, 1) := by decide +kernel
theorem d_Model_act_94 : decode prog_9_method_66_code 94 = .ok (.iaload, 1) := by decide +kernel
theorem d_Model_act_95 : decode prog_9_method_66_code 95 = .ok (.iload_n 3, 1) := by decide +kernel
theorem d_Model_act_96 : decode prog_9_method_66_code 96 = .ok (.invokevirtual 282, 3) := by decide +kernel
theorem d_Model_act_99 : decode prog_9_method_66_code 99 = .ok (.ireturn, 1) := by decide +kernel
set_option maxHeartbeats 4000000 in
set_option maxRecDepth 100000 in
theorem r_Model_act_0 {p : Program} {l : Launch} {e : Env} {s : State} {m : MethodId} {args : Array Value} {below : List Frame} {meth : Method} {c : Code} {G : zG} {K : Nat} (X : zX p s m args meth c "AllHomeModel" prog_9_method_66_code 4 (some .int) G (zA G K)) {r : Int32} {h' : zH} (a0 : Nat) (x1 : Int32) (x2 : Int32) (x3 : Int32) (h : zH) (hm : m_Model_act a0 x1 x2 x3 h = some (r, h')) {H : Heap} {locs : List Loc} {ls : Array Slot} (hI : zI G K s (zA G K) H locs h) (hl : lv_has ls 4 [(0, .ref (G.1 a0)), (1, .int x1), (2, .int x2), (3, .int x3)]) : W p l e (zR 124) s m args below meth c H locs 0 0 (MQ below (zQi G K r h') args s 0 0 (zA G K)) (F0 m 0 ls []) := by
  obtain ⟨hx, hb, hml, hown, hts, hr, hlocks, hK, hST, hNs⟩ := id X
  unfold m_Model_act at hm
  refine lv_aload_n hx hb d_Model_act_0 rfl (lv_at hl 0 rfl) ?_
  refine lv_iconst (v := (nI 0)) hx hb d_Model_act_1 (by decide) ?_
  obtain ⟨h2, hv, hm⟩ := zbd hm
  refine z_putI X hI P_Model_264 hv d_Model_act_2 (fun H locs hI => ?_)
  refine lv_aload_n hx hb d_Model_act_5 rfl (lv_at hl 0 rfl) ?_
  refine lv_iload_n hx hb d_Model_act_6 rfl (lv_at hl 1 rfl) ?_
  obtain ⟨v7, hv, hm⟩ := zbd hm
  obtain ⟨hq, hv⟩ := zcv_at hv
  refine z_ci hI (z_runV (As := [.int x1]) (rest := []) X hI hl.1 (c_Model_isWay l G K a0 x1 h2 _ hv) C_Model_128 rfl hq (Nat.le_of_ble_eq_true rfl) ⟨Nat.le_of_ble_eq_true rfl, Nat.le_of_ble_eq_true rfl, Nat.zero_le _, Nat.zero_le _⟩ rfl d_Model_act_7) (fun H locs hI => ?_)
  refine lv_if_eq (tgt := 25) hx hb d_Model_act_10 (by decide) (fun hc10 => ?_) (fun hc10 => ?_)
  · replace hm := zif_t hc10 hm
    refine lv_iconst (v := (nI 0)) hx hb d_Model_act_25 (by decide) ?_
    obtain ⟨rfl, rfl⟩ := zs2 hm
    exact z_iret X hI d_Model_act_26
  · replace hm := zif_f hc10 hm
    refine lv_iload_n hx hb d_Model_act_13 rfl (lv_at hl 2 rfl) ?_
    refine lv_i2l hx hb d_Model_act_14 rfl ?_
    refine lv_lconst (v := 0) hx hb d_Model_act_15 (by decide) ?_
    refine lv_ldc2 hx hb hown (hts _ kw1023) d_Model_act_16 ?_
    obtain ⟨v19, hv, hm⟩ := zbd hm
    refine z_ci hI (z_runS (As := [.long x2.toInt64, .long (0 : Int64), .long (3 : Int64)]) (rest := []) X hI hl.1 (c_Model_within l G K x2.toInt64 (0 : Int64) (3 : Int64) h2 _ hv) C_Model_87 rfl (Nat.le_of_ble_eq_true rfl) ⟨Nat.le_of_ble_eq_true rfl, Nat.le_of_ble_eq_true rfl, Nat.zero_le _, Nat.zero_le _⟩ rfl d_Model_act_19) (fun H locs hI => ?_)
    refine lv_if_ne (tgt := 27) hx hb d_Model_act_22 (by decide) (fun hc22 => ?_) (fun hc22 => ?_)
    · replace hm := zif_f hc22 hm
      refine lv_aload_n hx hb d_Model_act_27 rfl (lv_at hl 0 rfl) ?_
      refine lv_iload_n hx hb d_Model_act_28 rfl (lv_at hl 1 rfl) ?_
      obtain ⟨h29, hv, hm⟩ := zbd hm
      refine z_putI X hI P_Model_270 hv d_Model_act_29 (fun H locs hI => ?_)
      refine lv_iload_n hx hb d_Model_act_32 rfl (lv_at hl 2 rfl) ?_
      refine lv_if_ne (tgt := 50) hx hb d_Model_act_33 (by decide) (fun hc33 => ?_) (fun hc33 => ?_)
      · replace hm := zif_f hc33 hm
        refine lv_iload_n hx hb d_Model_act_50 rfl (lv_at hl 2 rfl) ?_
        refine lv_iconst (v := (nI 1)) hx hb d_Model_act_51 (by decide) ?_
        refine lv_icmp_ne (tgt := 69) hx hb d_Model_act_52 (by decide) (fun hc52 => ?_) (fun hc52 => ?_)
        · replace hm := zif_f hc52 hm
          refine lv_iload_n hx hb d_Model_act_69 rfl (lv_at hl 2 rfl) ?_
          refine lv_iconst (v := (nI 2)) hx hb d_Model_act_70 (by decide) ?_
          refine lv_icmp_ne (tgt := 88) hx hb d_Model_act_71 (by decide) (fun hc71 => ?_) (fun hc71 => ?_)
          · replace hm := zif_f hc71 hm
            refine lv_aload_n hx hb d_Model_act_88 rfl (lv_at hl 0 rfl) ?_
            refine lv_aload_n hx hb d_Model_act_89 rfl (lv_at hl 0 rfl) ?_
            obtain ⟨v90, hv, hm⟩ := zbd hm
            refine z_getR X hI F_Model_19 hv d_Model_act_90 ?_
            refine lv_iload_n hx hb d_Model_act_93 rfl (lv_at hl 1 rfl) ?_
            obtain ⟨v94, hv, hm⟩ := zbd hm
            refine z_iald X hI hv d_Model_act_94 ?_
            refine lv_iload_n hx hb d_Model_act_95 rfl (lv_at hl 3 rfl) ?_
            obtain ⟨v96, h96, hv, hm⟩ := zb2_at hm
            obtain ⟨hq, hv⟩ := zcv_at hv
            refine z_ci hI (z_runV (As := [.int v94, .int x3]) (rest := []) X hI hl.1 (c_Model_tells l G K 40 a0 v94 x3 h29 _ _ hv) C_Model_282 rfl hq (Nat.le_of_ble_eq_true rfl) ⟨Nat.le_of_ble_eq_true rfl, Nat.le_of_ble_eq_true rfl, Nat.zero_le _, Nat.zero_le _⟩ rfl d_Model_act_96) (fun H locs hI => ?_)
            obtain ⟨rfl, rfl⟩ := zs2 hm
            exact z_iret X hI d_Model_act_99
          · replace hm := zif_t hc71 hm
            refine lv_aload_n hx hb d_Model_act_74 rfl (lv_at hl 0 rfl) ?_
            refine lv_aload_n hx hb d_Model_act_75 rfl (lv_at hl 0 rfl) ?_
            obtain ⟨v76, hv, hm⟩ := zbd hm
            refine z_getR X hI F_Model_19 hv d_Model_act_76 ?_
            refine lv_iload_n hx hb d_Model_act_79 rfl (lv_at hl 1 rfl) ?_
            obtain ⟨v80, hv, hm⟩ := zbd hm
            refine z_iald X hI hv d_Model_act_80 ?_
            refine lv_iload_n hx hb d_Model_act_81 rfl (lv_at hl 3 rfl) ?_
            obtain ⟨v82, h82, hv, hm⟩ := zb2_at hm
            obtain ⟨hq, hv⟩ := zcv_at hv
            refine z_ci hI (z_runV (As := [.int v80, .int x3]) (rest := []) X hI hl.1 (c_Model_owes l G K 40 a0 v80 x3 h29 _ _ hv) C_Model_279 rfl hq (Nat.le_of_ble_eq_true rfl) ⟨Nat.le_of_ble_eq_true rfl, Nat.le_of_ble_eq_true rfl, Nat.zero_le _, Nat.zero_le _⟩ rfl d_Model_act_82) (fun H locs hI => ?_)
            refine lv_goto (tgt := 99) hx hb d_Model_act_85 (by decide) ?_
            obtain ⟨rfl, rfl⟩ := zs2 hm
            exact z_iret X hI d_Model_act_99
        · replace hm := zif_t hc52 hm
          refine lv_aload_n hx hb d_Model_act_55 rfl (lv_at hl 0 rfl) ?_
          refine lv_aload_n hx hb d_Model_act_56 rfl (lv_at hl 0 rfl) ?_
          obtain ⟨v57, hv, hm⟩ := zbd hm
          refine z_getR X hI F_Model_19 hv d_Model_act_57 ?_
          refine lv_iload_n hx hb d_Model_act_60 rfl (lv_at hl 1 rfl) ?_
          obtain ⟨v61, hv, hm⟩ := zbd hm
          refine z_iald X hI hv d_Model_act_61 ?_
          refine lv_iload_n hx hb d_Model_act_62 rfl (lv_at hl 3 rfl) ?_
          obtain ⟨v63, h63, hv, hm⟩ := zb2_at hm
          obtain ⟨hq, hv⟩ := zcv_at hv
          refine z_ci hI (z_runV (As := [.int v61, .int x3]) (rest := []) X hI hl.1 (c_Model_asksOf l G K 40 a0 v61 x3 h29 _ _ hv) C_Model_276 rfl hq (Nat.le_of_ble_eq_true rfl) ⟨Nat.le_of_ble_eq_true rfl, Nat.le_of_ble_eq_true rfl, Nat.zero_le _, Nat.zero_le _⟩ rfl d_Model_act_63) (fun H locs hI => ?_)
          refine lv_goto (tgt := 99) hx hb d_Model_act_66 (by decide) ?_
          obtain ⟨rfl, rfl⟩ := zs2 hm
          exact z_iret X hI d_Model_act_99
      · replace hm := zif_t hc33 hm
        refine lv_aload_n hx hb d_Model_act_36 rfl (lv_at hl 0 rfl) ?_
        refine lv_aload_n hx hb d_Model_act_37 rfl (lv_at hl 0 rfl) ?_
        obtain ⟨v38, hv, hm⟩ := zbd hm
        refine z_getR X hI F_Model_19 hv d_Model_act_38 ?_
        refine lv_iload_n hx hb d_Model_act_41 rfl (lv_at hl 1 rfl) ?_
        obtain ⟨v42, hv, hm⟩ := zbd hm
        refine z_iald X hI hv d_Model_act_42 ?_
        refine lv_iload_n hx hb d_Model_act_43 rfl (lv_at hl 3 rfl) ?_
        obtain ⟨v44, h44, hv, hm⟩ := zb2_at hm
        obtain ⟨hq, hv⟩ := zcv_at hv
        refine z_ci hI (z_runV (As := [.int v42, .int x3]) (rest := []) X hI hl.1 (c_Model_sends l G K 40 a0 v42 x3 h29 _ _ hv) C_Model_273 rfl hq (Nat.le_of_ble_eq_true rfl) ⟨Nat.le_of_ble_eq_true rfl, Nat.le_of_ble_eq_true rfl, Nat.zero_le _, Nat.zero_le _⟩ rfl d_Model_act_44) (fun H locs hI => ?_)
        refine lv_goto (tgt := 99) hx hb d_Model_act_47 (by decide) ?_
        obtain ⟨rfl, rfl⟩ := zs2 hm
        exact z_iret X hI d_Model_act_99
    · replace hm := zif_t hc22 hm
      refine lv_iconst (v := (nI 0)) hx hb d_Model_act_25 (by decide) ?_
      obtain ⟨rfl, rfl⟩ := zs2 hm
      exact z_iret X hI d_Model_act_26
set_option maxHeartbeats 4000000 in
set_option maxRecDepth 100000 in
theorem c_Model_act (l : Launch) (G : zG) (K : Nat) (a0 : Nat) (x1 : Int32) (x2 : Int32) (x3 : Int32) (h : zH) (r : Int32) (h' : zH) (hm : m_Model_act a0 x1 x2 x3 h = some (r, h')) : zMi l G K y_Model_act prog_9_method_66_code 4 124 [.ref (G.1 a0), .int x1, .int x2, .int x3] h r h' := zMet (by decide +kernel) (Nat.le_of_ble_eq_true rfl) (fun p e s m below meth c ls X hI hl => r_Model_act_0 X a0 x1 x2 x3 h hm hI hl)
-- walk of AllHomeModel.trace
theorem d_Model_trace_0 : decode prog_9_method_67_code 0 = .ok (.iload_n 1, 1) := by decide +kernel
theorem d_Model_trace_1 : decode prog_9_method_67_code 1 = .ok (.ifCond .lt 26, 3) := by decide +kernel
theorem d_Model_trace_4 : decode prog_9_method_67_code 4 = .ok (.iload_n 1, 1) := by decide +kernel
theorem d_Model_trace_5 : decode prog_9_method_67_code 5 = .ok (.aload_n 0, 1) := by decide +kernel
theorem d_Model_trace_6 : decode prog_9_method_67_code 6 = .ok (.getfield 264, 3) := by decide +kernel
theorem d_Model_trace_9 : decode prog_9_method_67_code 9 = .ok (.if_icmp .ge 18, 3) := by decide +kernel
theorem d_Model_trace_12 : decode prog_9_method_67_code 12 = .ok (.iload_n 1, 1) := by decide +kernel
theorem d_Model_trace_13 : decode prog_9_method_67_code 13 = .ok (.bipush 24, 2) := by decide +kernel
theorem d_Model_trace_15 : decode prog_9_method_67_code 15 = .ok (.if_icmp .ge 12, 3) := by decide +kernel
theorem d_Model_trace_18 : decode prog_9_method_67_code 18 = .ok (.aload_n 0, 1) := by decide +kernel
theorem d_Model_trace_19 : decode prog_9_method_67_code 19 = .ok (.getfield 62, 3) := by decide +kernel
theorem d_Model_trace_22 : decode prog_9_method_67_code 22 = .ok (.iload_n 1, 1) := by decide +kernel
theorem d_Model_trace_23 : decode prog_9_method_67_code 23 = .ok (.iaload, 1) := by decide +kernel
theorem d_Model_trace_24 : decode prog_9_method_67_code 24 = .ok (.goto 4, 3) := by decide +kernel
theorem d_Model_trace_27 : decode prog_9_method_67_code 27 = .ok (.iconst (-1), 1) := by decide +kernel
theorem d_Model_trace_28 : decode prog_9_method_67_code 28 = .ok (.ireturn, 1) := by decide +kernel
set_option maxHeartbeats 4000000 in
set_option maxRecDepth 100000 in
theorem r_Model_trace_0 {p : Program} {l : Launch} {e : Env} {s : State} {m : MethodId} {args : Array Value} {below : List Frame} {meth : Method} {c : Code} {G : zG} {K : Nat} (X : zX p s m args meth c "AllHomeModel" prog_9_method_67_code 2 (some .int) G (zA G K)) {r : Int32} (a0 : Nat) (x1 : Int32) (h : zH) (hm : m_Model_trace a0 x1 h = some r) {H : Heap} {locs : List Loc} {ls : Array Slot} (hI : zI G K s (zA G K) H locs h) (hl : lv_has ls 2 [(0, .ref (G.1 a0)), (1, .int x1)]) : W p l e (zR 0) s m args below meth c H locs 0 0 (MQ below (zQi G K r h) args s 0 0 (zA G K)) (F0 m 0 ls []) := by
  obtain ⟨hx, hb, hml, hown, hts, hr, hlocks, hK, hST, hNs⟩ := id X
  unfold m_Model_trace at hm
  refine lv_iload_n hx hb d_Model_trace_0 rfl (lv_at hl 1 rfl) ?_
  refine lv_if_lt (tgt := 27) hx hb d_Model_trace_1 (by decide) (fun hc1 => ?_) (fun hc1 => ?_)
  · replace hm := zif_t hc1 hm
    refine lv_iconst (v := (-1 : Int32)) hx hb d_Model_trace_27 (by decide) ?_
    obtain rfl := zs1 hm
    exact z_iret X hI d_Model_trace_28
  · replace hm := zif_f hc1 hm
    refine lv_iload_n hx hb d_Model_trace_4 rfl (lv_at hl 1 rfl) ?_
    refine lv_aload_n hx hb d_Model_trace_5 rfl (lv_at hl 0 rfl) ?_
    obtain ⟨v6, hv, hm⟩ := zbd hm
    refine z_getI X hI F_Model_264 hv d_Model_trace_6 ?_
    refine lv_icmp_ge (tgt := 27) hx hb d_Model_trace_9 (by decide) (fun hc9 => ?_) (fun hc9 => ?_)
    · replace hm := zif_t hc9 hm
      refine lv_iconst (v := (-1 : Int32)) hx hb d_Model_trace_27 (by decide) ?_
      obtain rfl := zs1 hm
      exact z_iret X hI d_Model_trace_28
    · replace hm := zif_f hc9 hm
      refine lv_iload_n hx hb d_Model_trace_12 rfl (lv_at hl 1 rfl) ?_
      refine lv_bipush (v := (nI 24)) hx hb d_Model_trace_13 (by decide) ?_
      refine lv_icmp_ge (tgt := 27) hx hb d_Model_trace_15 (by decide) (fun hc15 => ?_) (fun hc15 => ?_)
      · replace hm := zif_t hc15 hm
        refine lv_iconst (v := (-1 : Int32)) hx hb d_Model_trace_27 (by decide) ?_
        obtain rfl := zs1 hm
        exact z_iret X hI d_Model_trace_28
      · replace hm := zif_f hc15 hm
        refine lv_aload_n hx hb d_Model_trace_18 rfl (lv_at hl 0 rfl) ?_
        obtain ⟨v19, hv, hm⟩ := zbd hm
        refine z_getR X hI F_Model_62 hv d_Model_trace_19 ?_
        refine lv_iload_n hx hb d_Model_trace_22 rfl (lv_at hl 1 rfl) ?_
        obtain ⟨v23, hv, hm⟩ := zbd hm
        refine z_iald X hI hv d_Model_trace_23 ?_
        refine lv_goto (tgt := 28) hx hb d_Model_trace_24 (by decide) ?_
        obtain rfl := zs1 hm
        exact z_iret X hI d_Model_trace_28
set_option maxHeartbeats 4000000 in
set_option maxRecDepth 100000 in
theorem c_Model_trace (l : Launch) (G : zG) (K : Nat) (a0 : Nat) (x1 : Int32) (h : zH) (r : Int32) (hm : m_Model_trace a0 x1 h = some r) : zMi l G K y_Model_trace prog_9_method_67_code 2 0 [.ref (G.1 a0), .int x1] h r h := zMet (by decide +kernel) (Nat.le_of_ble_eq_true rfl) (fun p e s m below meth c ls X hI hl => r_Model_trace_0 X a0 x1 h hm hI hl)
-- walk of AllHomeModel.keep
theorem d_Model_keep_0 : decode prog_9_method_69_code 0 = .ok (.iload_n 1, 1) := by decide +kernel
theorem d_Model_keep_1 : decode prog_9_method_69_code 1 = .ok (.invokestatic 226, 3) := by decide +kernel
theorem d_Model_keep_4 : decode prog_9_method_69_code 4 = .ok (.ifCond .eq 16, 3) := by decide +kernel
theorem d_Model_keep_7 : decode prog_9_method_69_code 7 = .ok (.iload_n 2, 1) := by decide +kernel
theorem d_Model_keep_8 : decode prog_9_method_69_code 8 = .ok (.iconst (-1), 1) := by decide +kernel
theorem d_Model_keep_9 : decode prog_9_method_69_code 9 = .ok (.if_icmp .eq 13, 3) := by decide +kernel
theorem d_Model_keep_12 : decode prog_9_method_69_code 12 = .ok (.aload_n 0, 1) := by decide +kernel
theorem d_Model_keep_13 : decode prog_9_method_69_code 13 = .ok (.iload_n 2, 1) := by decide +kernel
theorem d_Model_keep_14 : decode prog_9_method_69_code 14 = .ok (.invokevirtual 128, 3) := by decide +kernel
theorem d_Model_keep_17 : decode prog_9_method_69_code 17 = .ok (.ifCond .ne 5, 3) := by decide +kernel
theorem d_Model_keep_20 : decode prog_9_method_69_code 20 = .ok (.iconst (-1), 1) := by decide +kernel
theorem d_Model_keep_21 : decode prog_9_method_69_code 21 = .ok (.ireturn, 1) := by decide +kernel
theorem d_Model_keep_22 : decode prog_9_method_69_code 22 = .ok (.aload_n 0, 1) := by decide +kernel
theorem d_Model_keep_23 : decode prog_9_method_69_code 23 = .ok (.getfield 65, 3) := by decide +kernel
theorem d_Model_keep_26 : decode prog_9_method_69_code 26 = .ok (.iload_n 1, 1) := by decide +kernel
theorem d_Model_keep_27 : decode prog_9_method_69_code 27 = .ok (.iload_n 2, 1) := by decide +kernel
theorem d_Model_keep_28 : decode prog_9_method_69_code 28 = .ok (.iastore, 1) := by decide +kernel
theorem d_Model_keep_29 : decode prog_9_method_69_code 29 = .ok (.aload_n 0, 1) := by decide +kernel
theorem d_Model_keep_30 : decode prog_9_method_69_code 30 = .ok (.getfield 68, 3) := by decide +kernel
theorem d_Model_keep_33 : decode prog_9_method_69_code 33 = .ok (.iload_n 1, 1) := by decide +kernel
theorem d_Model_keep_34 : decode prog_9_method_69_code 34 = .ok (.iconst 0, 1) := by decide +kernel
theorem d_Model_keep_35 : decode prog_9_method_69_code 35 = .ok (.iastore, 1) := by decide +kernel
theorem d_Model_keep_36 : decode prog_9_method_69_code 36 = .ok (.iconst 1, 1) := by decide +kernel
theorem d_Model_keep_37 : decode prog_9_method_69_code 37 = .ok (.ireturn, 1) := by decide +kernel
set_option maxHeartbeats 4000000 in
set_option maxRecDepth 100000 in
theorem r_Model_keep_22 {p : Program} {l : Launch} {e : Env} {s : State} {m : MethodId} {args : Array Value} {below : List Frame} {meth : Method} {c : Code} {G : zG} {K : Nat} (X : zX p s m args meth c "AllHomeModel" prog_9_method_69_code 3 (some .int) G (zA G K)) {r : Int32} {h' : zH} (a0 : Nat) (x1 : Int32) (x2 : Int32) (h : zH) (hm : g_Model_keep_22 a0 x1 x2 h = some (r, h')) {H : Heap} {locs : List Loc} {ls : Array Slot} (hI : zI G K s (zA G K) H locs h) (hl : lv_has ls 3 [(0, .ref (G.1 a0)), (1, .int x1), (2, .int x2)]) : W p l e (zR 2) s m args below meth c H locs 0 0 (MQ below (zQi G K r h') args s 0 0 (zA G K)) (F0 m 22 ls []) := by
  obtain ⟨hx, hb, hml, hown, hts, hr, hlocks, hK, hST, hNs⟩ := id X
  unfold g_Model_keep_22 at hm
  refine lv_aload_n hx hb d_Model_keep_22 rfl (lv_at hl 0 rfl) ?_
  obtain ⟨v23, hv, hm⟩ := zbd hm
  refine z_getR X hI F_Model_65 hv d_Model_keep_23 ?_
  refine lv_iload_n hx hb d_Model_keep_26 rfl (lv_at hl 1 rfl) ?_
  refine lv_iload_n hx hb d_Model_keep_27 rfl (lv_at hl 2 rfl) ?_
  obtain ⟨h28, hv, hm⟩ := zbd hm
  refine z_iast X hI hv d_Model_keep_28 (fun H locs hI => ?_)
  refine lv_aload_n hx hb d_Model_keep_29 rfl (lv_at hl 0 rfl) ?_
  obtain ⟨v30, hv, hm⟩ := zbd hm
  refine z_getR X hI F_Model_68 hv d_Model_keep_30 ?_
  refine lv_iload_n hx hb d_Model_keep_33 rfl (lv_at hl 1 rfl) ?_
  refine lv_iconst (v := (nI 0)) hx hb d_Model_keep_34 (by decide) ?_
  obtain ⟨h35, hv, hm⟩ := zbd hm
  refine z_iast X hI hv d_Model_keep_35 (fun H locs hI => ?_)
  refine lv_iconst (v := (nI 1)) hx hb d_Model_keep_36 (by decide) ?_
  obtain ⟨rfl, rfl⟩ := zs2 hm
  exact z_iret X hI d_Model_keep_37
set_option maxHeartbeats 4000000 in
set_option maxRecDepth 100000 in
theorem r_Model_keep_0 {p : Program} {l : Launch} {e : Env} {s : State} {m : MethodId} {args : Array Value} {below : List Frame} {meth : Method} {c : Code} {G : zG} {K : Nat} (X : zX p s m args meth c "AllHomeModel" prog_9_method_69_code 3 (some .int) G (zA G K)) {r : Int32} {h' : zH} (a0 : Nat) (x1 : Int32) (x2 : Int32) (h : zH) (hm : m_Model_keep a0 x1 x2 h = some (r, h')) {H : Heap} {locs : List Loc} {ls : Array Slot} (hI : zI G K s (zA G K) H locs h) (hl : lv_has ls 3 [(0, .ref (G.1 a0)), (1, .int x1), (2, .int x2)]) : W p l e (zR 2) s m args below meth c H locs 0 0 (MQ below (zQi G K r h') args s 0 0 (zA G K)) (F0 m 0 ls []) := by
  obtain ⟨hx, hb, hml, hown, hts, hr, hlocks, hK, hST, hNs⟩ := id X
  unfold m_Model_keep at hm
  refine lv_iload_n hx hb d_Model_keep_0 rfl (lv_at hl 1 rfl) ?_
  obtain ⟨v1, hv, hm⟩ := zbd hm
  refine z_ci hI (z_runS (As := [.int x1]) (rest := []) X hI hl.1 (c_Model_isShelf l G K x1 h _ hv) C_Model_226 rfl (Nat.le_of_ble_eq_true rfl) ⟨Nat.le_of_ble_eq_true rfl, Nat.le_of_ble_eq_true rfl, Nat.zero_le _, Nat.zero_le _⟩ rfl d_Model_keep_1) (fun H locs hI => ?_)
  refine lv_if_eq (tgt := 20) hx hb d_Model_keep_4 (by decide) (fun hc4 => ?_) (fun hc4 => ?_)
  · replace hm := zif_t hc4 hm
    refine lv_iconst (v := (-1 : Int32)) hx hb d_Model_keep_20 (by decide) ?_
    obtain ⟨rfl, rfl⟩ := zs2 hm
    exact z_iret X hI d_Model_keep_21
  · replace hm := zif_f hc4 hm
    refine lv_iload_n hx hb d_Model_keep_7 rfl (lv_at hl 2 rfl) ?_
    refine lv_iconst (v := (-1 : Int32)) hx hb d_Model_keep_8 (by decide) ?_
    refine lv_icmp_eq (tgt := 22) hx hb d_Model_keep_9 (by decide) (fun hc9 => ?_) (fun hc9 => ?_)
    · replace hm := zif_t hc9 hm
      exact r_Model_keep_22 X a0 x1 x2 h hm hI (lv_sub hl [0, 1, 2] rfl)
    · replace hm := zif_f hc9 hm
      refine lv_aload_n hx hb d_Model_keep_12 rfl (lv_at hl 0 rfl) ?_
      refine lv_iload_n hx hb d_Model_keep_13 rfl (lv_at hl 2 rfl) ?_
      obtain ⟨v14, hv, hm⟩ := zbd hm
      obtain ⟨hq, hv⟩ := zcv_at hv
      refine z_ci hI (z_runV (As := [.int x2]) (rest := []) X hI hl.1 (c_Model_isWay l G K a0 x2 h _ hv) C_Model_128 rfl hq (Nat.le_of_ble_eq_true rfl) ⟨Nat.le_of_ble_eq_true rfl, Nat.le_of_ble_eq_true rfl, Nat.zero_le _, Nat.zero_le _⟩ rfl d_Model_keep_14) (fun H locs hI => ?_)
      refine lv_if_ne (tgt := 22) hx hb d_Model_keep_17 (by decide) (fun hc17 => ?_) (fun hc17 => ?_)
      · replace hm := zif_f hc17 hm
        exact r_Model_keep_22 X a0 x1 x2 h hm hI (lv_sub hl [0, 1, 2] rfl)
      · replace hm := zif_t hc17 hm
        refine lv_iconst (v := (-1 : Int32)) hx hb d_Model_keep_20 (by decide) ?_
        obtain ⟨rfl, rfl⟩ := zs2 hm
        exact z_iret X hI d_Model_keep_21
set_option maxHeartbeats 4000000 in
set_option maxRecDepth 100000 in
theorem c_Model_keep (l : Launch) (G : zG) (K : Nat) (a0 : Nat) (x1 : Int32) (x2 : Int32) (h : zH) (r : Int32) (h' : zH) (hm : m_Model_keep a0 x1 x2 h = some (r, h')) : zMi l G K y_Model_keep prog_9_method_69_code 3 2 [.ref (G.1 a0), .int x1, .int x2] h r h' := zMet (by decide +kernel) (Nat.le_of_ble_eq_true rfl) (fun p e s m below meth c ls X hI hl => r_Model_keep_0 X a0 x1 x2 h hm hI hl)
-- walk of AllHomeModel.row
theorem d_Model_row_0 : decode prog_9_method_70_code 0 = .ok (.iload_n 1, 1) := by decide +kernel
theorem d_Model_row_1 : decode prog_9_method_70_code 1 = .ok (.invokestatic 226, 3) := by decide +kernel
theorem d_Model_row_4 : decode prog_9_method_70_code 4 = .ok (.ifCond .eq 21, 3) := by decide +kernel
theorem d_Model_row_7 : decode prog_9_method_70_code 7 = .ok (.iload_n 2, 1) := by decide +kernel
theorem d_Model_row_8 : decode prog_9_method_70_code 8 = .ok (.i2l, 1) := by decide +kernel
theorem d_Model_row_9 : decode prog_9_method_70_code 9 = .ok (.lconst 0, 1) := by decide +kernel
theorem d_Model_row_10 : decode prog_9_method_70_code 10 = .ok (.ldc2_w 85, 3) := by decide +kernel
theorem d_Model_row_13 : decode prog_9_method_70_code 13 = .ok (.invokestatic 87, 3) := by decide +kernel
theorem d_Model_row_16 : decode prog_9_method_70_code 16 = .ok (.ifCond .eq 9, 3) := by decide +kernel
theorem d_Model_row_19 : decode prog_9_method_70_code 19 = .ok (.iload_n 3, 1) := by decide +kernel
theorem d_Model_row_20 : decode prog_9_method_70_code 20 = .ok (.bipush 60, 2) := by decide +kernel
theorem d_Model_row_22 : decode prog_9_method_70_code 22 = .ok (.if_icmp .le 5, 3) := by decide +kernel
theorem d_Model_row_25 : decode prog_9_method_70_code 25 = .ok (.iconst (-1), 1) := by decide +kernel
theorem d_Model_row_26 : decode prog_9_method_70_code 26 = .ok (.ireturn, 1) := by decide +kernel
theorem d_Model_row_27 : decode prog_9_method_70_code 27 = .ok (.iload_n 3, 1) := by decide +kernel
theorem d_Model_row_28 : decode prog_9_method_70_code 28 = .ok (.ifCond .ge 6, 3) := by decide +kernel
theorem d_Model_row_31 : decode prog_9_method_70_code 31 = .ok (.bipush (-14), 2) := by decide +kernel
theorem d_Model_row_33 : decode prog_9_method_70_code 33 = .ok (.ireturn, 1) := by decide +kernel
theorem d_Model_row_34 : decode prog_9_method_70_code 34 = .ok (.aload_n 0, 1) := by decide +kernel
theorem d_Model_row_35 : decode prog_9_method_70_code 35 = .ok (.getfield 65, 3) := by decide +kernel
theorem d_Model_row_38 : decode prog_9_method_70_code 38 = .ok (.iload_n 1, 1) := by decide +kernel
theorem d_Model_row_39 : decode prog_9_method_70_code 39 = .ok (.bipush 10, 2) := by decide +kernel
theorem d_Model_row_41 : decode prog_9_method_70_code 41 = .ok (.iload_n 2, 1) := by decide +kernel
theorem d_Model_row_42 : decode prog_9_method_70_code 42 = .ok (.iadd, 1) := by decide +kernel
theorem d_Model_row_43 : decode prog_9_method_70_code 43 = .ok (.iastore, 1) := by decide +kernel
theorem d_Model_row_44 : decode prog_9_method_70_code 44 = .ok (.aload_n 0, 1) := by decide +kernel
theorem d_Model_row_45 : decode prog_9_method_70_code 45 = .ok (.getfield 68, 3) := by decide +kernel
theorem d_Model_row_48 : decode prog_9_method_70_code 48 = .ok (.iload_n 1, 1) := by decide +kernel
theorem d_Model_row_49 : decode prog_9_method_70_code 49 = .ok (.iload_n 3, 1) := by decide +kernel
theorem d_Model_row_50 : decode prog_9_method_70_code 50 = .ok (.iastore, 1) := by decide +kernel
theorem d_Model_row_51 : decode prog_9_method_70_code 51 = .ok (.bipush 60, 2) := by decide +kernel
theorem d_Model_row_53 : decode prog_9_method_70_code 53 = .ok (.iload_n 1, 1) := by decide +kernel
theorem d_Model_row_54 : decode prog_9_method_70_code 54 = .ok (.imul, 1) := by decide +kernel
theorem d_Model_row_55 : decode prog_9_method_70_code 55 = .ok (.istore 4, 2) := by decide +kernel
theorem d_Model_row_57 : decode prog_9_method_70_code 57 = .ok (.iload 4, 2) := by decide +kernel
theorem d_Model_row_59 : decode prog_9_method_70_code 59 = .ok (.bipush 60, 2) := by decide +kernel
theorem d_Model_row_61 : decode prog_9_method_70_code 61 = .ok (.iload_n 1, 1) := by decide +kernel
theorem d_Model_row_62 : decode prog_9_method_70_code 62 = .ok (.imul, 1) := by decide +kernel
theorem d_Model_row_63 : decode prog_9_method_70_code 63 = .ok (.bipush 60, 2) := by decide +kernel
theorem d_Model_row_65 : decode prog_9_method_70_code 65 = .ok (.iadd, 1) := by decide +kernel
theorem d_Model_row_66 : decode prog_9_method_70_code 66 = .ok (.if_icmp .ge 17, 3) := by decide +kernel
theorem d_Model_row_69 : decode prog_9_method_70_code 69 = .ok (.aload_n 0, 1) := by decide +kernel
theorem d_Model_row_70 : decode prog_9_method_70_code 70 = .ok (.getfield 71, 3) := by decide +kernel
theorem d_Model_row_73 : decode prog_9_method_70_code 73 = .ok (.iload 4, 2) := by decide +kernel
theorem d_Model_row_75 : decode prog_9_method_70_code 75 = .ok (.lconst 0, 1) := by decide +kernel
theorem d_Model_row_76 : decode prog_9_method_70_code 76 = .ok (.lastore, 1) := by decide +kernel
theorem d_Model_row_77 : decode prog_9_method_70_code 77 = .ok (.iinc 4 1, 3) := by decide +kernel
theorem d_Model_row_80 : decode prog_9_method_70_code 80 = .ok (.goto (-23), 3) := by decide +kernel
theorem d_Model_row_83 : decode prog_9_method_70_code 83 = .ok (.iconst 1, 1) := by decide +kernel
theorem d_Model_row_84 : decode prog_9_method_70_code 84 = .ok (.ireturn, 1) := by decide +kernel
set_option maxHeartbeats 4000000 in
set_option maxRecDepth 100000 in
theorem r_Model_row_57_b {p : Program} {l : Launch} {e : Env} {s : State} {m : MethodId} {args : Array Value} {below : List Frame} {meth : Method} {c : Code} {G : zG} {K : Nat} (X : zX p s m args meth c "AllHomeModel" prog_9_method_70_code 5 (some .int) G (zA G K)) {r : Int32} {h' : zH} (a0 : Nat) (x1 : Int32) (k57 : (Int32 × zH) → Option (Int32 × zH)) (hk57 : ∀ (w : Int32 × zH), k57 w = some (r, h') → ∀ (H : Heap) (locs : List Loc) (ls : Array Slot), zI G K s (zA G K) H locs w.2 → lv_has ls 5 [(0, .ref (G.1 a0)), (1, .int x1), (4, .int w.1)] → W p l e (zR 2) s m args below meth c H locs 0 0 (MQ below (zQi G K r h') args s 0 0 (zA G K)) (F0 m 57 ls [])) (u : Int32 × zH) (hm : g_Model_row_57 a0 x1 k57 u = some (r, h')) {H : Heap} {locs : List Loc} {ls : Array Slot} (hI : zI G K s (zA G K) H locs u.2) (hl : lv_has ls 5 [(0, .ref (G.1 a0)), (1, .int x1), (4, .int u.1)]) : W p l e (zR 2) s m args below meth c H locs 0 0 (MQ below (zQi G K r h') args s 0 0 (zA G K)) (F0 m 57 ls []) := by
  obtain ⟨hx, hb, hml, hown, hts, hr, hlocks, hK, hST, hNs⟩ := id X
  unfold g_Model_row_57 at hm
  refine lv_iload hx hb d_Model_row_57 (lv_at hl 2 rfl) ?_
  refine lv_bipush (v := (nI 60)) hx hb d_Model_row_59 (by decide) ?_
  refine lv_iload_n hx hb d_Model_row_61 rfl (lv_at hl 1 rfl) ?_
  refine lv_imul hx hb d_Model_row_62 ?_
  refine lv_bipush (v := (nI 60)) hx hb d_Model_row_63 (by decide) ?_
  refine lv_iadd hx hb d_Model_row_65 ?_
  refine lv_icmp_ge (tgt := 83) hx hb d_Model_row_66 (by decide) (fun hc66 => ?_) (fun hc66 => ?_)
  · replace hm := zif_t hc66 hm
    refine lv_iconst (v := (nI 1)) hx hb d_Model_row_83 (by decide) ?_
    obtain ⟨rfl, rfl⟩ := zs2 hm
    exact z_iret X hI d_Model_row_84
  · replace hm := zif_f hc66 hm
    refine lv_aload_n hx hb d_Model_row_69 rfl (lv_at hl 0 rfl) ?_
    obtain ⟨v70, hv, hm⟩ := zbd hm
    refine z_getR X hI F_Model_71 hv d_Model_row_70 ?_
    refine lv_iload hx hb d_Model_row_73 (lv_at hl 2 rfl) ?_
    refine lv_lconst (v := 0) hx hb d_Model_row_75 (by decide) ?_
    obtain ⟨h76, hv, hm⟩ := zbd hm
    refine z_last X hI hv d_Model_row_76 (fun H locs hI => ?_)
    refine lv_iinc (v := (u.1 + (nI 1))) (lv' := [(4, .int (u.1 + (nI 1))), (0, .ref (G.1 a0)), (1, .int x1)]) hx hb d_Model_row_77 hl (k := 2) rfl (congrArg (fun z => u.1 + z) (show Int32.ofInt (1) = (nI 1) by decide)) (by decide) rfl (fun ls hl => ?_)
    refine lv_goto (tgt := 57) hx hb d_Model_row_80 (by decide) ?_
    obtain ⟨g0, e0⟩ : ∃ z, z = (u.1 + (nI 1)) := ⟨_, rfl⟩
    rw [← e0] at hm hl
    exact hk57 (g0, h76) hm _ _ _ hI (lv_sub hl [1, 2, 0] rfl)
theorem r_Model_row_57 {p : Program} {l : Launch} {e : Env} {s : State} {m : MethodId} {args : Array Value} {below : List Frame} {meth : Method} {c : Code} {G : zG} {K : Nat} (X : zX p s m args meth c "AllHomeModel" prog_9_method_70_code 5 (some .int) G (zA G K)) {r : Int32} {h' : zH} (a0 : Nat) (x1 : Int32) : ∀ (n : Nat) (w : Int32 × zH), zloop (g_Model_row_57 a0 x1) n w = some (r, h') → ∀ (H : Heap) (locs : List Loc) (ls : Array Slot), zI G K s (zA G K) H locs w.2 → lv_has ls 5 [(0, .ref (G.1 a0)), (1, .int x1), (4, .int w.1)] → W p l e (zR 2) s m args below meth c H locs 0 0 (MQ below (zQi G K r h') args s 0 0 (zA G K)) (F0 m 57 ls []) := by
  intro n
  induction n with
  | zero => intro w hm; cases hm
  | succ n ih => intro w hm H locs ls hI hl; exact r_Model_row_57_b X a0 x1 (zloop (g_Model_row_57 a0 x1) n) ih w (zls hm) hI hl
set_option maxHeartbeats 4000000 in
set_option maxRecDepth 100000 in
theorem r_Model_row_0 {p : Program} {l : Launch} {e : Env} {s : State} {m : MethodId} {args : Array Value} {below : List Frame} {meth : Method} {c : Code} {G : zG} {K : Nat} (X : zX p s m args meth c "AllHomeModel" prog_9_method_70_code 5 (some .int) G (zA G K)) {r : Int32} {h' : zH} (a0 : Nat) (x1 : Int32) (x2 : Int32) (x3 : Int32) (h : zH) (hm : m_Model_row a0 x1 x2 x3 h = some (r, h')) {H : Heap} {locs : List Loc} {ls : Array Slot} (hI : zI G K s (zA G K) H locs h) (hl : lv_has ls 5 [(0, .ref (G.1 a0)), (1, .int x1), (2, .int x2), (3, .int x3)]) : W p l e (zR 2) s m args below meth c H locs 0 0 (MQ below (zQi G K r h') args s 0 0 (zA G K)) (F0 m 0 ls []) := by
  obtain ⟨hx, hb, hml, hown, hts, hr, hlocks, hK, hST, hNs⟩ := id X
  unfold m_Model_row at hm
  refine lv_iload_n hx hb d_Model_row_0 rfl (lv_at hl 1 rfl) ?_
  obtain ⟨v1, hv, hm⟩ := zbd hm
  refine z_ci hI (z_runS (As := [.int x1]) (rest := []) X hI hl.1 (c_Model_isShelf l G K x1 h _ hv) C_Model_226 rfl (Nat.le_of_ble_eq_true rfl) ⟨Nat.le_of_ble_eq_true rfl, Nat.le_of_ble_eq_true rfl, Nat.zero_le _, Nat.zero_le _⟩ rfl d_Model_row_1) (fun H locs hI => ?_)
  refine lv_if_eq (tgt := 25) hx hb d_Model_row_4 (by decide) (fun hc4 => ?_) (fun hc4 => ?_)
  · replace hm := zif_t hc4 hm
    refine lv_iconst (v := (-1 : Int32)) hx hb d_Model_row_25 (by decide) ?_
    obtain ⟨rfl, rfl⟩ := zs2 hm
    exact z_iret X hI d_Model_row_26
  · replace hm := zif_f hc4 hm
    refine lv_iload_n hx hb d_Model_row_7 rfl (lv_at hl 2 rfl) ?_
    refine lv_i2l hx hb d_Model_row_8 rfl ?_
    refine lv_lconst (v := 0) hx hb d_Model_row_9 (by decide) ?_
    refine lv_ldc2 hx hb hown (hts _ kw777) d_Model_row_10 ?_
    obtain ⟨v13, hv, hm⟩ := zbd hm
    refine z_ci hI (z_runS (As := [.long x2.toInt64, .long (0 : Int64), .long (4 : Int64)]) (rest := []) X hI hl.1 (c_Model_within l G K x2.toInt64 (0 : Int64) (4 : Int64) h _ hv) C_Model_87 rfl (Nat.le_of_ble_eq_true rfl) ⟨Nat.le_of_ble_eq_true rfl, Nat.le_of_ble_eq_true rfl, Nat.zero_le _, Nat.zero_le _⟩ rfl d_Model_row_13) (fun H locs hI => ?_)
    refine lv_if_eq (tgt := 25) hx hb d_Model_row_16 (by decide) (fun hc16 => ?_) (fun hc16 => ?_)
    · replace hm := zif_t hc16 hm
      refine lv_iconst (v := (-1 : Int32)) hx hb d_Model_row_25 (by decide) ?_
      obtain ⟨rfl, rfl⟩ := zs2 hm
      exact z_iret X hI d_Model_row_26
    · replace hm := zif_f hc16 hm
      refine lv_iload_n hx hb d_Model_row_19 rfl (lv_at hl 3 rfl) ?_
      refine lv_bipush (v := (nI 60)) hx hb d_Model_row_20 (by decide) ?_
      refine lv_icmp_le (tgt := 27) hx hb d_Model_row_22 (by decide) (fun hc22 => ?_) (fun hc22 => ?_)
      · replace hm := zif_t hc22 hm
        refine lv_iload_n hx hb d_Model_row_27 rfl (lv_at hl 3 rfl) ?_
        refine lv_if_ge (tgt := 34) hx hb d_Model_row_28 (by decide) (fun hc28 => ?_) (fun hc28 => ?_)
        · replace hm := zif_t hc28 hm
          refine lv_aload_n hx hb d_Model_row_34 rfl (lv_at hl 0 rfl) ?_
          obtain ⟨v35, hv, hm⟩ := zbd hm
          refine z_getR X hI F_Model_65 hv d_Model_row_35 ?_
          refine lv_iload_n hx hb d_Model_row_38 rfl (lv_at hl 1 rfl) ?_
          refine lv_bipush (v := (nI 10)) hx hb d_Model_row_39 (by decide) ?_
          refine lv_iload_n hx hb d_Model_row_41 rfl (lv_at hl 2 rfl) ?_
          refine lv_iadd hx hb d_Model_row_42 ?_
          obtain ⟨h43, hv, hm⟩ := zbd hm
          refine z_iast X hI hv d_Model_row_43 (fun H locs hI => ?_)
          refine lv_aload_n hx hb d_Model_row_44 rfl (lv_at hl 0 rfl) ?_
          obtain ⟨v45, hv, hm⟩ := zbd hm
          refine z_getR X hI F_Model_68 hv d_Model_row_45 ?_
          refine lv_iload_n hx hb d_Model_row_48 rfl (lv_at hl 1 rfl) ?_
          refine lv_iload_n hx hb d_Model_row_49 rfl (lv_at hl 3 rfl) ?_
          obtain ⟨h50, hv, hm⟩ := zbd hm
          refine z_iast X hI hv d_Model_row_50 (fun H locs hI => ?_)
          refine lv_bipush (v := (nI 60)) hx hb d_Model_row_51 (by decide) ?_
          refine lv_iload_n hx hb d_Model_row_53 rfl (lv_at hl 1 rfl) ?_
          refine lv_imul hx hb d_Model_row_54 ?_
          refine lv_istore (lv' := [(4, .int ((nI 60) * x1)), (0, .ref (G.1 a0)), (1, .int x1), (2, .int x2), (3, .int x3)]) hx hb d_Model_row_55 hl (by decide) rfl (fun ls hl => ?_)
          obtain ⟨g0, e0⟩ : ∃ z, z = ((nI 60) * x1) := ⟨_, rfl⟩
          rw [← e0] at hm hl
          exact r_Model_row_57 X a0 x1 zN (g0, h50) hm _ _ _ hI (lv_sub hl [1, 2, 0] rfl)
        · replace hm := zif_f hc28 hm
          refine lv_bipush (v := (-14 : Int32)) hx hb d_Model_row_31 (by decide) ?_
          obtain ⟨rfl, rfl⟩ := zs2 hm
          exact z_iret X hI d_Model_row_33
      · replace hm := zif_f hc22 hm
        refine lv_iconst (v := (-1 : Int32)) hx hb d_Model_row_25 (by decide) ?_
        obtain ⟨rfl, rfl⟩ := zs2 hm
        exact z_iret X hI d_Model_row_26
set_option maxHeartbeats 4000000 in
set_option maxRecDepth 100000 in
theorem c_Model_row (l : Launch) (G : zG) (K : Nat) (a0 : Nat) (x1 : Int32) (x2 : Int32) (x3 : Int32) (h : zH) (r : Int32) (h' : zH) (hm : m_Model_row a0 x1 x2 x3 h = some (r, h')) : zMi l G K y_Model_row prog_9_method_70_code 5 2 [.ref (G.1 a0), .int x1, .int x2, .int x3] h r h' := zMet (by decide +kernel) (Nat.le_of_ble_eq_true rfl) (fun p e s m below meth c ls X hI hl => r_Model_row_0 X a0 x1 x2 x3 h hm hI hl)
-- walk of AllHomeModel.refusal
theorem d_Model_refusal_0 : decode prog_9_method_71_code 0 = .ok (.iload_n 1, 1) := by decide +kernel
theorem d_Model_refusal_1 : decode prog_9_method_71_code 1 = .ok (.invokestatic 226, 3) := by decide +kernel
theorem d_Model_refusal_4 : decode prog_9_method_71_code 4 = .ok (.ifCond .ne 5, 3) := by decide +kernel
theorem d_Model_refusal_7 : decode prog_9_method_71_code 7 = .ok (.iconst (-1), 1) := by decide +kernel
theorem d_Model_refusal_8 : decode prog_9_method_71_code 8 = .ok (.ireturn, 1) := by decide +kernel
theorem d_Model_refusal_9 : decode prog_9_method_71_code 9 = .ok (.aload_n 0, 1) := by decide +kernel
theorem d_Model_refusal_10 : decode prog_9_method_71_code 10 = .ok (.getfield 65, 3) := by decide +kernel
theorem d_Model_refusal_13 : decode prog_9_method_71_code 13 = .ok (.iload_n 1, 1) := by decide +kernel
theorem d_Model_refusal_14 : decode prog_9_method_71_code 14 = .ok (.iaload, 1) := by decide +kernel
theorem d_Model_refusal_15 : decode prog_9_method_71_code 15 = .ok (.ifCond .ge 6, 3) := by decide +kernel
theorem d_Model_refusal_18 : decode prog_9_method_71_code 18 = .ok (.bipush (-11), 2) := by decide +kernel
theorem d_Model_refusal_20 : decode prog_9_method_71_code 20 = .ok (.ireturn, 1) := by decide +kernel
theorem d_Model_refusal_21 : decode prog_9_method_71_code 21 = .ok (.aload_n 0, 1) := by decide +kernel
theorem d_Model_refusal_22 : decode prog_9_method_71_code 22 = .ok (.getfield 65, 3) := by decide +kernel
theorem d_Model_refusal_25 : decode prog_9_method_71_code 25 = .ok (.iload_n 1, 1) := by decide +kernel
theorem d_Model_refusal_26 : decode prog_9_method_71_code 26 = .ok (.iaload, 1) := by decide +kernel
theorem d_Model_refusal_27 : decode prog_9_method_71_code 27 = .ok (.bipush 10, 2) := by decide +kernel
theorem d_Model_refusal_29 : decode prog_9_method_71_code 29 = .ok (.if_icmp .ge 6, 3) := by decide +kernel
theorem d_Model_refusal_32 : decode prog_9_method_71_code 32 = .ok (.bipush (-12), 2) := by decide +kernel
theorem d_Model_refusal_34 : decode prog_9_method_71_code 34 = .ok (.ireturn, 1) := by decide +kernel
theorem d_Model_refusal_35 : decode prog_9_method_71_code 35 = .ok (.iload_n 2, 1) := by decide +kernel
theorem d_Model_refusal_36 : decode prog_9_method_71_code 36 = .ok (.ifCond .lt 17, 3) := by decide +kernel
theorem d_Model_refusal_39 : decode prog_9_method_71_code 39 = .ok (.iload_n 2, 1) := by decide +kernel
theorem d_Model_refusal_40 : decode prog_9_method_71_code 40 = .ok (.aload_n 0, 1) := by decide +kernel
theorem d_Model_refusal_41 : decode prog_9_method_71_code 41 = .ok (.getfield 68, 3) := by decide +kernel
theorem d_Model_refusal_44 : decode prog_9_method_71_code 44 = .ok (.iload_n 1, 1) := by decide +kernel
theorem d_Model_refusal_45 : decode prog_9_method_71_code 45 = .ok (.iaload, 1) := by decide +kernel
theorem d_Model_refusal_46 : decode prog_9_method_71_code 46 = .ok (.if_icmp .ge 7, 3) := by decide +kernel
theorem d_Model_refusal_49 : decode prog_9_method_71_code 49 = .ok (.iconst 0, 1) := by decide +kernel
theorem d_Model_refusal_50 : decode prog_9_method_71_code 50 = .ok (.goto 5, 3) := by decide +kernel
theorem d_Model_refusal_53 : decode prog_9_method_71_code 53 = .ok (.bipush (-13), 2) := by decide +kernel
theorem d_Model_refusal_55 : decode prog_9_method_71_code 55 = .ok (.ireturn, 1) := by decide +kernel
set_option maxHeartbeats 4000000 in
set_option maxRecDepth 100000 in
theorem r_Model_refusal_0 {p : Program} {l : Launch} {e : Env} {s : State} {m : MethodId} {args : Array Value} {below : List Frame} {meth : Method} {c : Code} {G : zG} {K : Nat} (X : zX p s m args meth c "AllHomeModel" prog_9_method_71_code 3 (some .int) G (zA G K)) {r : Int32} (a0 : Nat) (x1 : Int32) (x2 : Int32) (h : zH) (hm : m_Model_refusal a0 x1 x2 h = some r) {H : Heap} {locs : List Loc} {ls : Array Slot} (hI : zI G K s (zA G K) H locs h) (hl : lv_has ls 3 [(0, .ref (G.1 a0)), (1, .int x1), (2, .int x2)]) : W p l e (zR 2) s m args below meth c H locs 0 0 (MQ below (zQi G K r h) args s 0 0 (zA G K)) (F0 m 0 ls []) := by
  obtain ⟨hx, hb, hml, hown, hts, hr, hlocks, hK, hST, hNs⟩ := id X
  unfold m_Model_refusal at hm
  refine lv_iload_n hx hb d_Model_refusal_0 rfl (lv_at hl 1 rfl) ?_
  obtain ⟨v1, hv, hm⟩ := zbd hm
  refine z_ci hI (z_runS (As := [.int x1]) (rest := []) X hI hl.1 (c_Model_isShelf l G K x1 h _ hv) C_Model_226 rfl (Nat.le_of_ble_eq_true rfl) ⟨Nat.le_of_ble_eq_true rfl, Nat.le_of_ble_eq_true rfl, Nat.zero_le _, Nat.zero_le _⟩ rfl d_Model_refusal_1) (fun H locs hI => ?_)
  refine lv_if_ne (tgt := 9) hx hb d_Model_refusal_4 (by decide) (fun hc4 => ?_) (fun hc4 => ?_)
  · replace hm := zif_f hc4 hm
    refine lv_aload_n hx hb d_Model_refusal_9 rfl (lv_at hl 0 rfl) ?_
    obtain ⟨v10, hv, hm⟩ := zbd hm
    refine z_getR X hI F_Model_65 hv d_Model_refusal_10 ?_
    refine lv_iload_n hx hb d_Model_refusal_13 rfl (lv_at hl 1 rfl) ?_
    obtain ⟨v14, hv, hm⟩ := zbd hm
    refine z_iald X hI hv d_Model_refusal_14 ?_
    refine lv_if_ge (tgt := 21) hx hb d_Model_refusal_15 (by decide) (fun hc15 => ?_) (fun hc15 => ?_)
    · replace hm := zif_t hc15 hm
      refine lv_aload_n hx hb d_Model_refusal_21 rfl (lv_at hl 0 rfl) ?_
      obtain ⟨v22, hv, hm⟩ := zbd hm
      refine z_getR X hI F_Model_65 hv d_Model_refusal_22 ?_
      refine lv_iload_n hx hb d_Model_refusal_25 rfl (lv_at hl 1 rfl) ?_
      obtain ⟨v26, hv, hm⟩ := zbd hm
      refine z_iald X hI hv d_Model_refusal_26 ?_
      refine lv_bipush (v := (nI 10)) hx hb d_Model_refusal_27 (by decide) ?_
      refine lv_icmp_ge (tgt := 35) hx hb d_Model_refusal_29 (by decide) (fun hc29 => ?_) (fun hc29 => ?_)
      · replace hm := zif_t hc29 hm
        refine lv_iload_n hx hb d_Model_refusal_35 rfl (lv_at hl 2 rfl) ?_
        refine lv_if_lt (tgt := 53) hx hb d_Model_refusal_36 (by decide) (fun hc36 => ?_) (fun hc36 => ?_)
        · replace hm := zif_t hc36 hm
          refine lv_bipush (v := (-13 : Int32)) hx hb d_Model_refusal_53 (by decide) ?_
          obtain rfl := zs1 hm
          exact z_iret X hI d_Model_refusal_55
        · replace hm := zif_f hc36 hm
          refine lv_iload_n hx hb d_Model_refusal_39 rfl (lv_at hl 2 rfl) ?_
          refine lv_aload_n hx hb d_Model_refusal_40 rfl (lv_at hl 0 rfl) ?_
          obtain ⟨v41, hv, hm⟩ := zbd hm
          refine z_getR X hI F_Model_68 hv d_Model_refusal_41 ?_
          refine lv_iload_n hx hb d_Model_refusal_44 rfl (lv_at hl 1 rfl) ?_
          obtain ⟨v45, hv, hm⟩ := zbd hm
          refine z_iald X hI hv d_Model_refusal_45 ?_
          refine lv_icmp_ge (tgt := 53) hx hb d_Model_refusal_46 (by decide) (fun hc46 => ?_) (fun hc46 => ?_)
          · replace hm := zif_t hc46 hm
            refine lv_bipush (v := (-13 : Int32)) hx hb d_Model_refusal_53 (by decide) ?_
            obtain rfl := zs1 hm
            exact z_iret X hI d_Model_refusal_55
          · replace hm := zif_f hc46 hm
            refine lv_iconst (v := (nI 0)) hx hb d_Model_refusal_49 (by decide) ?_
            refine lv_goto (tgt := 55) hx hb d_Model_refusal_50 (by decide) ?_
            obtain rfl := zs1 hm
            exact z_iret X hI d_Model_refusal_55
      · replace hm := zif_f hc29 hm
        refine lv_bipush (v := (-12 : Int32)) hx hb d_Model_refusal_32 (by decide) ?_
        obtain rfl := zs1 hm
        exact z_iret X hI d_Model_refusal_34
    · replace hm := zif_f hc15 hm
      refine lv_bipush (v := (-11 : Int32)) hx hb d_Model_refusal_18 (by decide) ?_
      obtain rfl := zs1 hm
      exact z_iret X hI d_Model_refusal_20
  · replace hm := zif_t hc4 hm
    refine lv_iconst (v := (-1 : Int32)) hx hb d_Model_refusal_7 (by decide) ?_
    obtain rfl := zs1 hm
    exact z_iret X hI d_Model_refusal_8
set_option maxHeartbeats 4000000 in
set_option maxRecDepth 100000 in
theorem c_Model_refusal (l : Launch) (G : zG) (K : Nat) (a0 : Nat) (x1 : Int32) (x2 : Int32) (h : zH) (r : Int32) (hm : m_Model_refusal a0 x1 x2 h = some r) : zMi l G K y_Model_refusal prog_9_method_71_code 3 2 [.ref (G.1 a0), .int x1, .int x2] h r h := zMet (by decide +kernel) (Nat.le_of_ble_eq_true rfl) (fun p e s m below meth c ls X hI hl => r_Model_refusal_0 X a0 x1 x2 h hm hI hl)
-- walk of AllHomeModel.asSort
theorem d_Model_asSort_0 : decode prog_9_method_72_code 0 = .ok (.iload_n 0, 1) := by decide +kernel
theorem d_Model_asSort_1 : decode prog_9_method_72_code 1 = .ok (.ifCond .ne 10, 3) := by decide +kernel
theorem d_Model_asSort_4 : decode prog_9_method_72_code 4 = .ok (.lload_n 1, 1) := by decide +kernel
theorem d_Model_asSort_5 : decode prog_9_method_72_code 5 = .ok (.l2i, 1) := by decide +kernel
theorem d_Model_asSort_6 : decode prog_9_method_72_code 6 = .ok (.i2b, 1) := by decide +kernel
theorem d_Model_asSort_7 : decode prog_9_method_72_code 7 = .ok (.i2l, 1) := by decide +kernel
theorem d_Model_asSort_8 : decode prog_9_method_72_code 8 = .ok (.goto 46, 3) := by decide +kernel
theorem d_Model_asSort_11 : decode prog_9_method_72_code 11 = .ok (.iload_n 0, 1) := by decide +kernel
theorem d_Model_asSort_12 : decode prog_9_method_72_code 12 = .ok (.iconst 1, 1) := by decide +kernel
theorem d_Model_asSort_13 : decode prog_9_method_72_code 13 = .ok (.if_icmp .ne 10, 3) := by decide +kernel
theorem d_Model_asSort_16 : decode prog_9_method_72_code 16 = .ok (.lload_n 1, 1) := by decide +kernel
theorem d_Model_asSort_17 : decode prog_9_method_72_code 17 = .ok (.l2i, 1) := by decide +kernel
theorem d_Model_asSort_18 : decode prog_9_method_72_code 18 = .ok (.i2s, 1) := by decide +kernel
theorem d_Model_asSort_19 : decode prog_9_method_72_code 19 = .ok (.i2l, 1) := by decide +kernel
theorem d_Model_asSort_20 : decode prog_9_method_72_code 20 = .ok (.goto 34, 3) := by decide +kernel
theorem d_Model_asSort_23 : decode prog_9_method_72_code 23 = .ok (.iload_n 0, 1) := by decide +kernel
theorem d_Model_asSort_24 : decode prog_9_method_72_code 24 = .ok (.iconst 2, 1) := by decide +kernel
theorem d_Model_asSort_25 : decode prog_9_method_72_code 25 = .ok (.if_icmp .ne 9, 3) := by decide +kernel
theorem d_Model_asSort_28 : decode prog_9_method_72_code 28 = .ok (.lload_n 1, 1) := by decide +kernel
theorem d_Model_asSort_29 : decode prog_9_method_72_code 29 = .ok (.l2i, 1) := by decide +kernel
theorem d_Model_asSort_30 : decode prog_9_method_72_code 30 = .ok (.i2l, 1) := by decide +kernel
theorem d_Model_asSort_31 : decode prog_9_method_72_code 31 = .ok (.goto 23, 3) := by decide +kernel
theorem d_Model_asSort_34 : decode prog_9_method_72_code 34 = .ok (.iload_n 0, 1) := by decide +kernel
theorem d_Model_asSort_35 : decode prog_9_method_72_code 35 = .ok (.iconst 4, 1) := by decide +kernel
theorem d_Model_asSort_36 : decode prog_9_method_72_code 36 = .ok (.if_icmp .ne 17, 3) := by decide +kernel
theorem d_Model_asSort_39 : decode prog_9_method_72_code 39 = .ok (.lload_n 1, 1) := by decide +kernel
theorem d_Model_asSort_40 : decode prog_9_method_72_code 40 = .ok (.lconst 0, 1) := by decide +kernel
theorem d_Model_asSort_41 : decode prog_9_method_72_code 41 = .ok (.lcmp, 1) := by decide +kernel
theorem d_Model_asSort_42 : decode prog_9_method_72_code 42 = .ok (.ifCond .eq 7, 3) := by decide +kernel
theorem d_Model_asSort_45 : decode prog_9_method_72_code 45 = .ok (.lconst 1, 1) := by decide +kernel
theorem d_Model_asSort_46 : decode prog_9_method_72_code 46 = .ok (.goto 8, 3) := by decide +kernel
theorem d_Model_asSort_49 : decode prog_9_method_72_code 49 = .ok (.lconst 0, 1) := by decide +kernel
theorem d_Model_asSort_50 : decode prog_9_method_72_code 50 = .ok (.goto 4, 3) := by decide +kernel
theorem d_Model_asSort_53 : decode prog_9_method_72_code 53 = .ok (.lload_n 1, 1) := by decide +kernel
theorem d_Model_asSort_54 : decode prog_9_method_72_code 54 = .ok (.lreturn, 1) := by decide +kernel
set_option maxHeartbeats 4000000 in
set_option maxRecDepth 100000 in
theorem r_Model_asSort_0 {p : Program} {l : Launch} {e : Env} {s : State} {m : MethodId} {args : Array Value} {below : List Frame} {meth : Method} {c : Code} {G : zG} {K : Nat} (X : zX p s m args meth c "AllHomeModel" prog_9_method_72_code 3 (some .long) G (zA G K)) {r : Int64} (x0 : Int32) (x1 : Int64) (h : zH) (hm : m_Model_asSort x0 x1 h = some r) {H : Heap} {locs : List Loc} {ls : Array Slot} (hI : zI G K s (zA G K) H locs h) (hl : lv_has ls 3 [(0, .int x0), (1, .long x1)]) : W p l e (zR 0) s m args below meth c H locs 0 0 (MQ below (zQl G K r h) args s 0 0 (zA G K)) (F0 m 0 ls []) := by
  obtain ⟨hx, hb, hml, hown, hts, hr, hlocks, hK, hST, hNs⟩ := id X
  unfold m_Model_asSort at hm
  refine lv_iload_n hx hb d_Model_asSort_0 rfl (lv_at hl 0 rfl) ?_
  refine lv_if_ne (tgt := 11) hx hb d_Model_asSort_1 (by decide) (fun hc1 => ?_) (fun hc1 => ?_)
  · replace hm := zif_f hc1 hm
    refine lv_iload_n hx hb d_Model_asSort_11 rfl (lv_at hl 0 rfl) ?_
    refine lv_iconst (v := (nI 1)) hx hb d_Model_asSort_12 (by decide) ?_
    refine lv_icmp_ne (tgt := 23) hx hb d_Model_asSort_13 (by decide) (fun hc13 => ?_) (fun hc13 => ?_)
    · replace hm := zif_f hc13 hm
      refine lv_iload_n hx hb d_Model_asSort_23 rfl (lv_at hl 0 rfl) ?_
      refine lv_iconst (v := (nI 2)) hx hb d_Model_asSort_24 (by decide) ?_
      refine lv_icmp_ne (tgt := 34) hx hb d_Model_asSort_25 (by decide) (fun hc25 => ?_) (fun hc25 => ?_)
      · replace hm := zif_f hc25 hm
        refine lv_iload_n hx hb d_Model_asSort_34 rfl (lv_at hl 0 rfl) ?_
        refine lv_iconst (v := (nI 4)) hx hb d_Model_asSort_35 (by decide) ?_
        refine lv_icmp_ne (tgt := 53) hx hb d_Model_asSort_36 (by decide) (fun hc36 => ?_) (fun hc36 => ?_)
        · replace hm := zif_f hc36 hm
          refine lv_lload_n hx hb d_Model_asSort_53 rfl (lv_at hl 1 rfl) ?_
          obtain rfl := zs1 hm
          exact z_lret X hI d_Model_asSort_54
        · replace hm := zif_t hc36 hm
          refine lv_lload_n hx hb d_Model_asSort_39 rfl (lv_at hl 1 rfl) ?_
          refine lv_lconst (v := 0) hx hb d_Model_asSort_40 (by decide) ?_
          refine W.lcmp hx hb d_Model_asSort_41 ?_
          refine lv_if_eq (tgt := 49) hx hb d_Model_asSort_42 (by decide) (fun hc42 => ?_) (fun hc42 => ?_)
          · replace hm := zif_t hc42 hm
            refine lv_lconst (v := 0) hx hb d_Model_asSort_49 (by decide) ?_
            refine lv_goto (tgt := 54) hx hb d_Model_asSort_50 (by decide) ?_
            obtain rfl := zs1 hm
            exact z_lret X hI d_Model_asSort_54
          · replace hm := zif_f hc42 hm
            refine lv_lconst (v := 1) hx hb d_Model_asSort_45 (by decide) ?_
            refine lv_goto (tgt := 54) hx hb d_Model_asSort_46 (by decide) ?_
            obtain rfl := zs1 hm
            exact z_lret X hI d_Model_asSort_54
      · replace hm := zif_t hc25 hm
        refine lv_lload_n hx hb d_Model_asSort_28 rfl (lv_at hl 1 rfl) ?_
        refine lv_l2i hx hb d_Model_asSort_29 rfl ?_
        refine lv_i2l hx hb d_Model_asSort_30 rfl ?_
        refine lv_goto (tgt := 54) hx hb d_Model_asSort_31 (by decide) ?_
        obtain rfl := zs1 hm
        exact z_lret X hI d_Model_asSort_54
    · replace hm := zif_t hc13 hm
      refine lv_lload_n hx hb d_Model_asSort_16 rfl (lv_at hl 1 rfl) ?_
      refine lv_l2i hx hb d_Model_asSort_17 rfl ?_
      refine lv_i2s hx hb d_Model_asSort_18 rfl ?_
      refine lv_i2l hx hb d_Model_asSort_19 rfl ?_
      refine lv_goto (tgt := 54) hx hb d_Model_asSort_20 (by decide) ?_
      obtain rfl := zs1 hm
      exact z_lret X hI d_Model_asSort_54
  · replace hm := zif_t hc1 hm
    refine lv_lload_n hx hb d_Model_asSort_4 rfl (lv_at hl 1 rfl) ?_
    refine lv_l2i hx hb d_Model_asSort_5 rfl ?_
    refine lv_i2b hx hb d_Model_asSort_6 rfl ?_
    refine lv_i2l hx hb d_Model_asSort_7 rfl ?_
    refine lv_goto (tgt := 54) hx hb d_Model_asSort_8 (by decide) ?_
    obtain rfl := zs1 hm
    exact z_lret X hI d_Model_asSort_54
set_option maxHeartbeats 4000000 in
set_option maxRecDepth 100000 in
theorem c_Model_asSort (l : Launch) (G : zG) (K : Nat) (x0 : Int32) (x1 : Int64) (h : zH) (r : Int64) (hm : m_Model_asSort x0 x1 h = some r) : zMl l G K y_Model_asSort prog_9_method_72_code 3 0 [.int x0, .long x1] h r h := zMet (by decide +kernel) (Nat.le_of_ble_eq_true rfl) (fun p e s m below meth c ls X hI hl => r_Model_asSort_0 X x0 x1 h hm hI hl)
-- walk of AllHomeModel.put
theorem d_Model_put_0 : decode prog_9_method_73_code 0 = .ok (.aload_n 0, 1) := by decide +kernel
theorem d_Model_put_1 : decode prog_9_method_73_code 1 = .ok (.iload_n 1, 1) := by decide +kernel
theorem d_Model_put_2 : decode prog_9_method_73_code 2 = .ok (.iload_n 2, 1) := by decide +kernel
theorem d_Model_put_3 : decode prog_9_method_73_code 3 = .ok (.invokevirtual 289, 3) := by decide +kernel
theorem d_Model_put_6 : decode prog_9_method_73_code 6 = .ok (.istore 5, 2) := by decide +kernel
theorem d_Model_put_8 : decode prog_9_method_73_code 8 = .ok (.iload 5, 2) := by decide +kernel
theorem d_Model_put_10 : decode prog_9_method_73_code 10 = .ok (.ifCond .ne 27, 3) := by decide +kernel
theorem d_Model_put_13 : decode prog_9_method_73_code 13 = .ok (.aload_n 0, 1) := by decide +kernel
theorem d_Model_put_14 : decode prog_9_method_73_code 14 = .ok (.getfield 71, 3) := by decide +kernel
theorem d_Model_put_17 : decode prog_9_method_73_code 17 = .ok (.bipush 60, 2) := by decide +kernel
theorem d_Model_put_19 : decode prog_9_method_73_code 19 = .ok (.iload_n 1, 1) := by decide +kernel
theorem d_Model_put_20 : decode prog_9_method_73_code 20 = .ok (.imul, 1) := by decide +kernel
theorem d_Model_put_21 : decode prog_9_method_73_code 21 = .ok (.iload_n 2, 1) := by decide +kernel
theorem d_Model_put_22 : decode prog_9_method_73_code 22 = .ok (.iadd, 1) := by decide +kernel
theorem d_Model_put_23 : decode prog_9_method_73_code 23 = .ok (.aload_n 0, 1) := by decide +kernel
theorem d_Model_put_24 : decode prog_9_method_73_code 24 = .ok (.getfield 65, 3) := by decide +kernel
theorem d_Model_put_27 : decode prog_9_method_73_code 27 = .ok (.iload_n 1, 1) := by decide +kernel
theorem d_Model_put_28 : decode prog_9_method_73_code 28 = .ok (.iaload, 1) := by decide +kernel
theorem d_Model_put_29 : decode prog_9_method_73_code 29 = .ok (.bipush 10, 2) := by decide +kernel
theorem d_Model_put_31 : decode prog_9_method_73_code 31 = .ok (.isub, 1) := by decide +kernel
theorem d_Model_put_32 : decode prog_9_method_73_code 32 = .ok (.lload_n 3, 1) := by decide +kernel
theorem d_Model_put_33 : decode prog_9_method_73_code 33 = .ok (.invokestatic 292, 3) := by decide +kernel
theorem d_Model_put_36 : decode prog_9_method_73_code 36 = .ok (.lastore, 1) := by decide +kernel
theorem d_Model_put_37 : decode prog_9_method_73_code 37 = .ok (.iload 5, 2) := by decide +kernel
theorem d_Model_put_39 : decode prog_9_method_73_code 39 = .ok (.ifCond .ne 7, 3) := by decide +kernel
theorem d_Model_put_42 : decode prog_9_method_73_code 42 = .ok (.iconst 1, 1) := by decide +kernel
theorem d_Model_put_43 : decode prog_9_method_73_code 43 = .ok (.goto 5, 3) := by decide +kernel
theorem d_Model_put_46 : decode prog_9_method_73_code 46 = .ok (.iload 5, 2) := by decide +kernel
theorem d_Model_put_48 : decode prog_9_method_73_code 48 = .ok (.ireturn, 1) := by decide +kernel
set_option maxHeartbeats 4000000 in
set_option maxRecDepth 100000 in
theorem r_Model_put_0 {p : Program} {l : Launch} {e : Env} {s : State} {m : MethodId} {args : Array Value} {below : List Frame} {meth : Method} {c : Code} {G : zG} {K : Nat} (X : zX p s m args meth c "AllHomeModel" prog_9_method_73_code 6 (some .int) G (zA G K)) {r : Int32} {h' : zH} (a0 : Nat) (x1 : Int32) (x2 : Int32) (x3 : Int64) (h : zH) (hm : m_Model_put a0 x1 x2 x3 h = some (r, h')) {H : Heap} {locs : List Loc} {ls : Array Slot} (hI : zI G K s (zA G K) H locs h) (hl : lv_has ls 6 [(0, .ref (G.1 a0)), (1, .int x1), (2, .int x2), (3, .long x3)]) : W p l e (zR 3) s m args below meth c H locs 0 0 (MQ below (zQi G K r h') args s 0 0 (zA G K)) (F0 m 0 ls []) := by
  obtain ⟨hx, hb, hml, hown, hts, hr, hlocks, hK, hST, hNs⟩ := id X
  unfold m_Model_put at hm
  refine lv_aload_n hx hb d_Model_put_0 rfl (lv_at hl 0 rfl) ?_
  refine lv_iload_n hx hb d_Model_put_1 rfl (lv_at hl 1 rfl) ?_
  refine lv_iload_n hx hb d_Model_put_2 rfl (lv_at hl 2 rfl) ?_
  obtain ⟨v3, hv, hm⟩ := zbd hm
  obtain ⟨hq, hv⟩ := zcv_at hv
  refine z_ci hI (z_runV (As := [.int x1, .int x2]) (rest := []) X hI hl.1 (c_Model_refusal l G K a0 x1 x2 h _ hv) C_Model_289 rfl hq (Nat.le_of_ble_eq_true rfl) ⟨Nat.le_of_ble_eq_true rfl, Nat.le_of_ble_eq_true rfl, Nat.zero_le _, Nat.zero_le _⟩ rfl d_Model_put_3) (fun H locs hI => ?_)
  refine lv_istore (lv' := [(5, .int v3), (0, .ref (G.1 a0)), (1, .int x1), (2, .int x2), (3, .long x3)]) hx hb d_Model_put_6 hl (by decide) rfl (fun ls hl => ?_)
  refine lv_iload hx hb d_Model_put_8 (lv_at hl 0 rfl) ?_
  refine lv_if_ne (tgt := 37) hx hb d_Model_put_10 (by decide) (fun hc10 => ?_) (fun hc10 => ?_)
  · replace hm := zif_f hc10 hm
    refine lv_iload hx hb d_Model_put_37 (lv_at hl 0 rfl) ?_
    refine lv_if_ne (tgt := 46) hx hb d_Model_put_39 (by decide) (fun hc39 => ?_) (fun hc39 => ?_)
    · replace hm := zif_f hc39 hm
      refine lv_iload hx hb d_Model_put_46 (lv_at hl 0 rfl) ?_
      obtain ⟨rfl, rfl⟩ := zs2 hm
      exact z_iret X hI d_Model_put_48
    · replace hm := zif_t hc39 hm
      refine lv_iconst (v := (nI 1)) hx hb d_Model_put_42 (by decide) ?_
      refine lv_goto (tgt := 48) hx hb d_Model_put_43 (by decide) ?_
      obtain ⟨rfl, rfl⟩ := zs2 hm
      exact z_iret X hI d_Model_put_48
  · replace hm := zif_t hc10 hm
    refine lv_aload_n hx hb d_Model_put_13 rfl (lv_at hl 1 rfl) ?_
    obtain ⟨v14, hv, hm⟩ := zbd hm
    refine z_getR X hI F_Model_71 hv d_Model_put_14 ?_
    refine lv_bipush (v := (nI 60)) hx hb d_Model_put_17 (by decide) ?_
    refine lv_iload_n hx hb d_Model_put_19 rfl (lv_at hl 2 rfl) ?_
    refine lv_imul hx hb d_Model_put_20 ?_
    refine lv_iload_n hx hb d_Model_put_21 rfl (lv_at hl 3 rfl) ?_
    refine lv_iadd hx hb d_Model_put_22 ?_
    refine lv_aload_n hx hb d_Model_put_23 rfl (lv_at hl 1 rfl) ?_
    obtain ⟨v24, hv, hm⟩ := zbd hm
    refine z_getR X hI F_Model_65 hv d_Model_put_24 ?_
    refine lv_iload_n hx hb d_Model_put_27 rfl (lv_at hl 2 rfl) ?_
    obtain ⟨v28, hv, hm⟩ := zbd hm
    refine z_iald X hI hv d_Model_put_28 ?_
    refine lv_bipush (v := (nI 10)) hx hb d_Model_put_29 (by decide) ?_
    refine lv_isub hx hb d_Model_put_31 ?_
    refine lv_lload_n hx hb d_Model_put_32 rfl (lv_at hl 4 rfl) ?_
    obtain ⟨v33, hv, hm⟩ := zbd hm
    refine z_cl hI (z_runS (As := [.int (v28 - (nI 10)), .long x3]) (rest := [.int (((nI 60) * x1) + x2), .ref (G.1 v14)]) X hI hl.1 (c_Model_asSort l G K (v28 - (nI 10)) x3 h _ hv) C_Model_292 rfl (Nat.le_of_ble_eq_true rfl) ⟨Nat.le_of_ble_eq_true rfl, Nat.le_of_ble_eq_true rfl, Nat.zero_le _, Nat.zero_le _⟩ rfl d_Model_put_33) (fun H locs hI => ?_)
    obtain ⟨h36, hv, hm⟩ := zbd hm
    refine z_last X hI hv d_Model_put_36 (fun H locs hI => ?_)
    refine lv_iload hx hb d_Model_put_37 (lv_at hl 0 rfl) ?_
    refine lv_if_ne (tgt := 46) hx hb d_Model_put_39 (by decide) (fun hc39 => ?_) (fun hc39 => ?_)
    · replace hm := zif_f hc39 hm
      refine lv_iload hx hb d_Model_put_46 (lv_at hl 0 rfl) ?_
      obtain ⟨rfl, rfl⟩ := zs2 hm
      exact z_iret X hI d_Model_put_48
    · replace hm := zif_t hc39 hm
      refine lv_iconst (v := (nI 1)) hx hb d_Model_put_42 (by decide) ?_
      refine lv_goto (tgt := 48) hx hb d_Model_put_43 (by decide) ?_
      obtain ⟨rfl, rfl⟩ := zs2 hm
      exact z_iret X hI d_Model_put_48
set_option maxHeartbeats 4000000 in
set_option maxRecDepth 100000 in
theorem c_Model_put (l : Launch) (G : zG) (K : Nat) (a0 : Nat) (x1 : Int32) (x2 : Int32) (x3 : Int64) (h : zH) (r : Int32) (h' : zH) (hm : m_Model_put a0 x1 x2 x3 h = some (r, h')) : zMi l G K y_Model_put prog_9_method_73_code 6 3 [.ref (G.1 a0), .int x1, .int x2, .long x3] h r h' := zMet (by decide +kernel) (Nat.le_of_ble_eq_true rfl) (fun p e s m below meth c ls X hI hl => r_Model_put_0 X a0 x1 x2 x3 h hm hI hl)
-- walk of AllHomeModel.element
theorem d_Model_element_0 : decode prog_9_method_74_code 0 = .ok (.aload_n 0, 1) := by decide +kernel
theorem d_Model_element_1 : decode prog_9_method_74_code 1 = .ok (.iload_n 1, 1) := by decide +kernel
theorem d_Model_element_2 : decode prog_9_method_74_code 2 = .ok (.iload_n 2, 1) := by decide +kernel
theorem d_Model_element_3 : decode prog_9_method_74_code 3 = .ok (.invokevirtual 289, 3) := by decide +kernel
theorem d_Model_element_6 : decode prog_9_method_74_code 6 = .ok (.ifCond .eq 9, 3) := by decide +kernel
theorem d_Model_element_9 : decode prog_9_method_74_code 9 = .ok (.ldc2_w 298, 3) := by decide +kernel
theorem d_Model_element_12 : decode prog_9_method_74_code 12 = .ok (.goto 14, 3) := by decide +kernel
theorem d_Model_element_15 : decode prog_9_method_74_code 15 = .ok (.aload_n 0, 1) := by decide +kernel
theorem d_Model_element_16 : decode prog_9_method_74_code 16 = .ok (.getfield 71, 3) := by decide +kernel
theorem d_Model_element_19 : decode prog_9_method_74_code 19 = .ok (.bipush 60, 2) := by decide +kernel
theorem d_Model_element_21 : decode prog_9_method_74_code 21 = .ok (.iload_n 1, 1) := by decide +kernel
theorem d_Model_element_22 : decode prog_9_method_74_code 22 = .ok (.imul, 1) := by decide +kernel
theorem d_Model_element_23 : decode prog_9_method_74_code 23 = .ok (.iload_n 2, 1) := by decide +kernel
theorem d_Model_element_24 : decode prog_9_method_74_code 24 = .ok (.iadd, 1) := by decide +kernel
theorem d_Model_element_25 : decode prog_9_method_74_code 25 = .ok (.laload, 1) := by decide +kernel
theorem d_Model_element_26 : decode prog_9_method_74_code 26 = .ok (.lreturn, 1) := by decide +kernel
set_option maxHeartbeats 4000000 in
set_option maxRecDepth 100000 in
theorem r_Model_element_0 {p : Program} {l : Launch} {e : Env} {s : State} {m : MethodId} {args : Array Value} {below : List Frame} {meth : Method} {c : Code} {G : zG} {K : Nat} (X : zX p s m args meth c "AllHomeModel" prog_9_method_74_code 3 (some .long) G (zA G K)) {r : Int64} (a0 : Nat) (x1 : Int32) (x2 : Int32) (h : zH) (hm : m_Model_element a0 x1 x2 h = some r) {H : Heap} {locs : List Loc} {ls : Array Slot} (hI : zI G K s (zA G K) H locs h) (hl : lv_has ls 3 [(0, .ref (G.1 a0)), (1, .int x1), (2, .int x2)]) : W p l e (zR 3) s m args below meth c H locs 0 0 (MQ below (zQl G K r h) args s 0 0 (zA G K)) (F0 m 0 ls []) := by
  obtain ⟨hx, hb, hml, hown, hts, hr, hlocks, hK, hST, hNs⟩ := id X
  unfold m_Model_element at hm
  refine lv_aload_n hx hb d_Model_element_0 rfl (lv_at hl 0 rfl) ?_
  refine lv_iload_n hx hb d_Model_element_1 rfl (lv_at hl 1 rfl) ?_
  refine lv_iload_n hx hb d_Model_element_2 rfl (lv_at hl 2 rfl) ?_
  obtain ⟨v3, hv, hm⟩ := zbd hm
  obtain ⟨hq, hv⟩ := zcv_at hv
  refine z_ci hI (z_runV (As := [.int x1, .int x2]) (rest := []) X hI hl.1 (c_Model_refusal l G K a0 x1 x2 h _ hv) C_Model_289 rfl hq (Nat.le_of_ble_eq_true rfl) ⟨Nat.le_of_ble_eq_true rfl, Nat.le_of_ble_eq_true rfl, Nat.zero_le _, Nat.zero_le _⟩ rfl d_Model_element_3) (fun H locs hI => ?_)
  refine lv_if_eq (tgt := 15) hx hb d_Model_element_6 (by decide) (fun hc6 => ?_) (fun hc6 => ?_)
  · replace hm := zif_t hc6 hm
    refine lv_aload_n hx hb d_Model_element_15 rfl (lv_at hl 0 rfl) ?_
    obtain ⟨v16, hv, hm⟩ := zbd hm
    refine z_getR X hI F_Model_71 hv d_Model_element_16 ?_
    refine lv_bipush (v := (nI 60)) hx hb d_Model_element_19 (by decide) ?_
    refine lv_iload_n hx hb d_Model_element_21 rfl (lv_at hl 1 rfl) ?_
    refine lv_imul hx hb d_Model_element_22 ?_
    refine lv_iload_n hx hb d_Model_element_23 rfl (lv_at hl 2 rfl) ?_
    refine lv_iadd hx hb d_Model_element_24 ?_
    obtain ⟨v25, hv, hm⟩ := zbd hm
    refine z_lald X hI hv d_Model_element_25 ?_
    obtain rfl := zs1 hm
    exact z_lret X hI d_Model_element_26
  · replace hm := zif_f hc6 hm
    refine lv_ldc2 hx hb hown (hts _ kw1071) d_Model_element_9 ?_
    refine lv_goto (tgt := 26) hx hb d_Model_element_12 (by decide) ?_
    obtain rfl := zs1 hm
    exact z_lret X hI d_Model_element_26
set_option maxHeartbeats 4000000 in
set_option maxRecDepth 100000 in
theorem c_Model_element (l : Launch) (G : zG) (K : Nat) (a0 : Nat) (x1 : Int32) (x2 : Int32) (h : zH) (r : Int64) (hm : m_Model_element a0 x1 x2 h = some r) : zMl l G K y_Model_element prog_9_method_74_code 3 3 [.ref (G.1 a0), .int x1, .int x2] h r h := zMet (by decide +kernel) (Nat.le_of_ble_eq_true rfl) (fun p e s m below meth c ls X hI hl => r_Model_element_0 X a0 x1 x2 h hm hI hl)
-- walk of AllHomeModel.shift
theorem d_Model_shift_0 : decode prog_9_method_75_code 0 = .ok (.iload_n 1, 1) := by decide +kernel
theorem d_Model_shift_1 : decode prog_9_method_75_code 1 = .ok (.invokestatic 226, 3) := by decide +kernel
theorem d_Model_shift_4 : decode prog_9_method_75_code 4 = .ok (.ifCond .eq 10, 3) := by decide +kernel
theorem d_Model_shift_7 : decode prog_9_method_75_code 7 = .ok (.iload_n 3, 1) := by decide +kernel
theorem d_Model_shift_8 : decode prog_9_method_75_code 8 = .ok (.invokestatic 226, 3) := by decide +kernel
theorem d_Model_shift_11 : decode prog_9_method_75_code 11 = .ok (.ifCond .ne 5, 3) := by decide +kernel
theorem d_Model_shift_14 : decode prog_9_method_75_code 14 = .ok (.iconst (-1), 1) := by decide +kernel
theorem d_Model_shift_15 : decode prog_9_method_75_code 15 = .ok (.ireturn, 1) := by decide +kernel
theorem d_Model_shift_16 : decode prog_9_method_75_code 16 = .ok (.aload_n 0, 1) := by decide +kernel
theorem d_Model_shift_17 : decode prog_9_method_75_code 17 = .ok (.getfield 65, 3) := by decide +kernel
theorem d_Model_shift_20 : decode prog_9_method_75_code 20 = .ok (.iload_n 1, 1) := by decide +kernel
theorem d_Model_shift_21 : decode prog_9_method_75_code 21 = .ok (.iaload, 1) := by decide +kernel
theorem d_Model_shift_22 : decode prog_9_method_75_code 22 = .ok (.ifCond .lt 12, 3) := by decide +kernel
theorem d_Model_shift_25 : decode prog_9_method_75_code 25 = .ok (.aload_n 0, 1) := by decide +kernel
theorem d_Model_shift_26 : decode prog_9_method_75_code 26 = .ok (.getfield 65, 3) := by decide +kernel
theorem d_Model_shift_29 : decode prog_9_method_75_code 29 = .ok (.iload_n 3, 1) := by decide +kernel
theorem d_Model_shift_30 : decode prog_9_method_75_code 30 = .ok (.iaload, 1) := by decide +kernel
theorem d_Model_shift_31 : decode prog_9_method_75_code 31 = .ok (.ifCond .ge 6, 3) := by decide +kernel
theorem d_Model_shift_34 : decode prog_9_method_75_code 34 = .ok (.bipush (-11), 2) := by decide +kernel
theorem d_Model_shift_36 : decode prog_9_method_75_code 36 = .ok (.ireturn, 1) := by decide +kernel
theorem d_Model_shift_37 : decode prog_9_method_75_code 37 = .ok (.aload_n 0, 1) := by decide +kernel
theorem d_Model_shift_38 : decode prog_9_method_75_code 38 = .ok (.getfield 65, 3) := by decide +kernel
theorem d_Model_shift_41 : decode prog_9_method_75_code 41 = .ok (.iload_n 1, 1) := by decide +kernel
theorem d_Model_shift_42 : decode prog_9_method_75_code 42 = .ok (.iaload, 1) := by decide +kernel
theorem d_Model_shift_43 : decode prog_9_method_75_code 43 = .ok (.bipush 10, 2) := by decide +kernel
theorem d_Model_shift_45 : decode prog_9_method_75_code 45 = .ok (.if_icmp .lt 18, 3) := by decide +kernel
theorem d_Model_shift_48 : decode prog_9_method_75_code 48 = .ok (.aload_n 0, 1) := by decide +kernel
theorem d_Model_shift_49 : decode prog_9_method_75_code 49 = .ok (.getfield 65, 3) := by decide +kernel
theorem d_Model_shift_52 : decode prog_9_method_75_code 52 = .ok (.iload_n 1, 1) := by decide +kernel
theorem d_Model_shift_53 : decode prog_9_method_75_code 53 = .ok (.iaload, 1) := by decide +kernel
theorem d_Model_shift_54 : decode prog_9_method_75_code 54 = .ok (.aload_n 0, 1) := by decide +kernel
theorem d_Model_shift_55 : decode prog_9_method_75_code 55 = .ok (.getfield 65, 3) := by decide +kernel
theorem d_Model_shift_58 : decode prog_9_method_75_code 58 = .ok (.iload_n 3, 1) := by decide +kernel
theorem d_Model_shift_59 : decode prog_9_method_75_code 59 = .ok (.iaload, 1) := by decide +kernel
theorem d_Model_shift_60 : decode prog_9_method_75_code 60 = .ok (.if_icmp .eq 6, 3) := by decide +kernel
theorem d_Model_shift_63 : decode prog_9_method_75_code 63 = .ok (.bipush (-12), 2) := by decide +kernel
theorem d_Model_shift_65 : decode prog_9_method_75_code 65 = .ok (.ireturn, 1) := by decide +kernel
theorem d_Model_shift_66 : decode prog_9_method_75_code 66 = .ok (.iload 5, 2) := by decide +kernel
theorem d_Model_shift_68 : decode prog_9_method_75_code 68 = .ok (.ifCond .lt 39, 3) := by decide +kernel
theorem d_Model_shift_71 : decode prog_9_method_75_code 71 = .ok (.iload_n 2, 1) := by decide +kernel
theorem d_Model_shift_72 : decode prog_9_method_75_code 72 = .ok (.ifCond .lt 35, 3) := by decide +kernel
theorem d_Model_shift_75 : decode prog_9_method_75_code 75 = .ok (.iload 4, 2) := by decide +kernel
theorem d_Model_shift_77 : decode prog_9_method_75_code 77 = .ok (.ifCond .lt 30, 3) := by decide +kernel
theorem d_Model_shift_80 : decode prog_9_method_75_code 80 = .ok (.iload_n 2, 1) := by decide +kernel
theorem d_Model_shift_81 : decode prog_9_method_75_code 81 = .ok (.aload_n 0, 1) := by decide +kernel
theorem d_Model_shift_82 : decode prog_9_method_75_code 82 = .ok (.getfield 68, 3) := by decide +kernel
theorem d_Model_shift_85 : decode prog_9_method_75_code 85 = .ok (.iload_n 1, 1) := by decide +kernel
theorem d_Model_shift_86 : decode prog_9_method_75_code 86 = .ok (.iaload, 1) := by decide +kernel
theorem d_Model_shift_87 : decode prog_9_method_75_code 87 = .ok (.iload 5, 2) := by decide +kernel
theorem d_Model_shift_89 : decode prog_9_method_75_code 89 = .ok (.isub, 1) := by decide +kernel
theorem d_Model_shift_90 : decode prog_9_method_75_code 90 = .ok (.if_icmp .gt 17, 3) := by decide +kernel
theorem d_Model_shift_93 : decode prog_9_method_75_code 93 = .ok (.iload 4, 2) := by decide +kernel
theorem d_Model_shift_95 : decode prog_9_method_75_code 95 = .ok (.aload_n 0, 1) := by decide +kernel
theorem d_Model_shift_96 : decode prog_9_method_75_code 96 = .ok (.getfield 68, 3) := by decide +kernel
theorem d_Model_shift_99 : decode prog_9_method_75_code 99 = .ok (.iload_n 3, 1) := by decide +kernel
theorem d_Model_shift_100 : decode prog_9_method_75_code 100 = .ok (.iaload, 1) := by decide +kernel
theorem d_Model_shift_101 : decode prog_9_method_75_code 101 = .ok (.iload 5, 2) := by decide +kernel
theorem d_Model_shift_103 : decode prog_9_method_75_code 103 = .ok (.isub, 1) := by decide +kernel
theorem d_Model_shift_104 : decode prog_9_method_75_code 104 = .ok (.if_icmp .le 6, 3) := by decide +kernel
theorem d_Model_shift_107 : decode prog_9_method_75_code 107 = .ok (.bipush (-13), 2) := by decide +kernel
theorem d_Model_shift_109 : decode prog_9_method_75_code 109 = .ok (.ireturn, 1) := by decide +kernel
theorem d_Model_shift_110 : decode prog_9_method_75_code 110 = .ok (.iconst 0, 1) := by decide +kernel
theorem d_Model_shift_111 : decode prog_9_method_75_code 111 = .ok (.istore 6, 2) := by decide +kernel
theorem d_Model_shift_113 : decode prog_9_method_75_code 113 = .ok (.iload 6, 2) := by decide +kernel
theorem d_Model_shift_115 : decode prog_9_method_75_code 115 = .ok (.iload 5, 2) := by decide +kernel
theorem d_Model_shift_117 : decode prog_9_method_75_code 117 = .ok (.if_icmp .ge 30, 3) := by decide +kernel
theorem d_Model_shift_120 : decode prog_9_method_75_code 120 = .ok (.aload_n 0, 1) := by decide +kernel
theorem d_Model_shift_121 : decode prog_9_method_75_code 121 = .ok (.getfield 75, 3) := by decide +kernel
theorem d_Model_shift_124 : decode prog_9_method_75_code 124 = .ok (.iload 6, 2) := by decide +kernel
theorem d_Model_shift_126 : decode prog_9_method_75_code 126 = .ok (.aload_n 0, 1) := by decide +kernel
theorem d_Model_shift_127 : decode prog_9_method_75_code 127 = .ok (.getfield 71, 3) := by decide +kernel
theorem d_Model_shift_130 : decode prog_9_method_75_code 130 = .ok (.bipush 60, 2) := by decide +kernel
theorem d_Model_shift_132 : decode prog_9_method_75_code 132 = .ok (.iload_n 1, 1) := by decide +kernel
theorem d_Model_shift_133 : decode prog_9_method_75_code 133 = .ok (.imul, 1) := by decide +kernel
theorem d_Model_shift_134 : decode prog_9_method_75_code 134 = .ok (.iload_n 2, 1) := by decide +kernel
theorem d_Model_shift_135 : decode prog_9_method_75_code 135 = .ok (.iadd, 1) := by decide +kernel
theorem d_Model_shift_136 : decode prog_9_method_75_code 136 = .ok (.iload 6, 2) := by decide +kernel
theorem d_Model_shift_138 : decode prog_9_method_75_code 138 = .ok (.iadd, 1) := by decide +kernel
theorem d_Model_shift_139 : decode prog_9_method_75_code 139 = .ok (.laload, 1) := by decide +kernel
theorem d_Model_shift_140 : decode prog_9_method_75_code 140 = .ok (.lastore, 1) := by decide +kernel
theorem d_Model_shift_141 : decode prog_9_method_75_code 141 = .ok (.iinc 6 1, 3) := by decide +kernel
theorem d_Model_shift_144 : decode prog_9_method_75_code 144 = .ok (.goto (-31), 3) := by decide +kernel
theorem d_Model_shift_147 : decode prog_9_method_75_code 147 = .ok (.iconst 0, 1) := by decide +kernel
theorem d_Model_shift_148 : decode prog_9_method_75_code 148 = .ok (.istore 6, 2) := by decide +kernel
theorem d_Model_shift_150 : decode prog_9_method_75_code 150 = .ok (.iload 6, 2) := by decide +kernel
theorem d_Model_shift_152 : decode prog_9_method_75_code 152 = .ok (.iload 5, 2) := by decide +kernel
theorem d_Model_shift_154 : decode prog_9_method_75_code 154 = .ok (.if_icmp .ge 31, 3) := by decide +kernel
theorem d_Model_shift_157 : decode prog_9_method_75_code 157 = .ok (.aload_n 0, 1) := by decide +kernel
theorem d_Model_shift_158 : decode prog_9_method_75_code 158 = .ok (.getfield 71, 3) := by decide +kernel
theorem d_Model_shift_161 : decode prog_9_method_75_code 161 = .ok (.bipush 60, 2) := by decide +kernel
theorem d_Model_shift_163 : decode prog_9_method_75_code 163 = .ok (.iload_n 3, 1) := by decide +kernel
theorem d_Model_shift_164 : decode prog_9_method_75_code 164 = .ok (.imul, 1) := by decide +kernel
theorem d_Model_shift_165 : decode prog_9_method_75_code 165 = .ok (.iload 4, 2) := by decide +kernel
theorem d_Model_shift_167 : decode prog_9_method_75_code 167 = .ok (.iadd, 1) := by decide +kernel
theorem d_Model_shift_168 : decode prog_9_method_75_code 168 = .ok (.iload 6, 2) := by decide +kernel
theorem d_Model_shift_170 : decode prog_9_method_75_code 170 = .ok (.iadd, 1) := by decide +kernel
theorem d_Model_shift_171 : decode prog_9_method_75_code 171 = .ok (.aload_n 0, 1) := by decide +kernel
theorem d_Model_shift_172 : decode prog_9_method_75_code 172 = .ok (.getfield 75, 3) := by decide +kernel
theorem d_Model_shift_175 : decode prog_9_method_75_code 175 = .ok (.iload 6, 2) := by decide +kernel
theorem d_Model_shift_177 : decode prog_9_method_75_code 177 = .ok (.laload, 1) := by decide +kernel
theorem d_Model_shift_178 : decode prog_9_method_75_code 178 = .ok (.lastore, 1) := by decide +kernel
theorem d_Model_shift_179 : decode prog_9_method_75_code 179 = .ok (.iinc 6 1, 3) := by decide +kernel
theorem d_Model_shift_182 : decode prog_9_method_75_code 182 = .ok (.goto (-32), 3) := by decide +kernel
theorem d_Model_shift_185 : decode prog_9_method_75_code 185 = .ok (.iload 5, 2) := by decide +kernel
theorem d_Model_shift_187 : decode prog_9_method_75_code 187 = .ok (.ireturn, 1) := by decide +kernel
set_option maxHeartbeats 4000000 in
set_option maxRecDepth 100000 in
theorem r_Model_shift_150_b {p : Program} {l : Launch} {e : Env} {s : State} {m : MethodId} {args : Array Value} {below : List Frame} {meth : Method} {c : Code} {G : zG} {K : Nat} (X : zX p s m args meth c "AllHomeModel" prog_9_method_75_code 7 (some .int) G (zA G K)) {r : Int32} {h' : zH} (a0 : Nat) (x3 : Int32) (x4 : Int32) (x5 : Int32) (k150 : (Int32 × zH) → Option (Int32 × zH)) (hk150 : ∀ (w : Int32 × zH), k150 w = some (r, h') → ∀ (H : Heap) (locs : List Loc) (ls : Array Slot), zI G K s (zA G K) H locs w.2 → lv_has ls 7 [(0, .ref (G.1 a0)), (3, .int x3), (4, .int x4), (5, .int x5), (6, .int w.1)] → W p l e (zR 2) s m args below meth c H locs 0 0 (MQ below (zQi G K r h') args s 0 0 (zA G K)) (F0 m 150 ls [])) (u : Int32 × zH) (hm : g_Model_shift_150 a0 x3 x4 x5 k150 u = some (r, h')) {H : Heap} {locs : List Loc} {ls : Array Slot} (hI : zI G K s (zA G K) H locs u.2) (hl : lv_has ls 7 [(0, .ref (G.1 a0)), (3, .int x3), (4, .int x4), (5, .int x5), (6, .int u.1)]) : W p l e (zR 2) s m args below meth c H locs 0 0 (MQ below (zQi G K r h') args s 0 0 (zA G K)) (F0 m 150 ls []) := by
  obtain ⟨hx, hb, hml, hown, hts, hr, hlocks, hK, hST, hNs⟩ := id X
  unfold g_Model_shift_150 at hm
  refine lv_iload hx hb d_Model_shift_150 (lv_at hl 4 rfl) ?_
  refine lv_iload hx hb d_Model_shift_152 (lv_at hl 3 rfl) ?_
  refine lv_icmp_ge (tgt := 185) hx hb d_Model_shift_154 (by decide) (fun hc154 => ?_) (fun hc154 => ?_)
  · replace hm := zif_t hc154 hm
    refine lv_iload hx hb d_Model_shift_185 (lv_at hl 3 rfl) ?_
    obtain ⟨rfl, rfl⟩ := zs2 hm
    exact z_iret X hI d_Model_shift_187
  · replace hm := zif_f hc154 hm
    refine lv_aload_n hx hb d_Model_shift_157 rfl (lv_at hl 0 rfl) ?_
    obtain ⟨v158, hv, hm⟩ := zbd hm
    refine z_getR X hI F_Model_71 hv d_Model_shift_158 ?_
    refine lv_bipush (v := (nI 60)) hx hb d_Model_shift_161 (by decide) ?_
    refine lv_iload_n hx hb d_Model_shift_163 rfl (lv_at hl 1 rfl) ?_
    refine lv_imul hx hb d_Model_shift_164 ?_
    refine lv_iload hx hb d_Model_shift_165 (lv_at hl 2 rfl) ?_
    refine lv_iadd hx hb d_Model_shift_167 ?_
    refine lv_iload hx hb d_Model_shift_168 (lv_at hl 4 rfl) ?_
    refine lv_iadd hx hb d_Model_shift_170 ?_
    refine lv_aload_n hx hb d_Model_shift_171 rfl (lv_at hl 0 rfl) ?_
    obtain ⟨v172, hv, hm⟩ := zbd hm
    refine z_getR X hI F_Model_75 hv d_Model_shift_172 ?_
    refine lv_iload hx hb d_Model_shift_175 (lv_at hl 4 rfl) ?_
    obtain ⟨v177, hv, hm⟩ := zbd hm
    refine z_lald X hI hv d_Model_shift_177 ?_
    obtain ⟨h178, hv, hm⟩ := zbd hm
    refine z_last X hI hv d_Model_shift_178 (fun H locs hI => ?_)
    refine lv_iinc (v := (u.1 + (nI 1))) (lv' := [(6, .int (u.1 + (nI 1))), (0, .ref (G.1 a0)), (3, .int x3), (4, .int x4), (5, .int x5)]) hx hb d_Model_shift_179 hl (k := 4) rfl (congrArg (fun z => u.1 + z) (show Int32.ofInt (1) = (nI 1) by decide)) (by decide) rfl (fun ls hl => ?_)
    refine lv_goto (tgt := 150) hx hb d_Model_shift_182 (by decide) ?_
    obtain ⟨g0, e0⟩ : ∃ z, z = (u.1 + (nI 1)) := ⟨_, rfl⟩
    rw [← e0] at hm hl
    exact hk150 (g0, h178) hm _ _ _ hI (lv_sub hl [1, 2, 3, 4, 0] rfl)
theorem r_Model_shift_150 {p : Program} {l : Launch} {e : Env} {s : State} {m : MethodId} {args : Array Value} {below : List Frame} {meth : Method} {c : Code} {G : zG} {K : Nat} (X : zX p s m args meth c "AllHomeModel" prog_9_method_75_code 7 (some .int) G (zA G K)) {r : Int32} {h' : zH} (a0 : Nat) (x3 : Int32) (x4 : Int32) (x5 : Int32) : ∀ (n : Nat) (w : Int32 × zH), zloop (g_Model_shift_150 a0 x3 x4 x5) n w = some (r, h') → ∀ (H : Heap) (locs : List Loc) (ls : Array Slot), zI G K s (zA G K) H locs w.2 → lv_has ls 7 [(0, .ref (G.1 a0)), (3, .int x3), (4, .int x4), (5, .int x5), (6, .int w.1)] → W p l e (zR 2) s m args below meth c H locs 0 0 (MQ below (zQi G K r h') args s 0 0 (zA G K)) (F0 m 150 ls []) := by
  intro n
  induction n with
  | zero => intro w hm; cases hm
  | succ n ih => intro w hm H locs ls hI hl; exact r_Model_shift_150_b X a0 x3 x4 x5 (zloop (g_Model_shift_150 a0 x3 x4 x5) n) ih w (zls hm) hI hl
set_option maxHeartbeats 4000000 in
set_option maxRecDepth 100000 in
theorem r_Model_shift_113_b {p : Program} {l : Launch} {e : Env} {s : State} {m : MethodId} {args : Array Value} {below : List Frame} {meth : Method} {c : Code} {G : zG} {K : Nat} (X : zX p s m args meth c "AllHomeModel" prog_9_method_75_code 7 (some .int) G (zA G K)) {r : Int32} {h' : zH} (a0 : Nat) (x1 : Int32) (x2 : Int32) (x3 : Int32) (x4 : Int32) (x5 : Int32) (k113 : (Int32 × zH) → Option (Int32 × zH)) (hk113 : ∀ (w : Int32 × zH), k113 w = some (r, h') → ∀ (H : Heap) (locs : List Loc) (ls : Array Slot), zI G K s (zA G K) H locs w.2 → lv_has ls 7 [(0, .ref (G.1 a0)), (1, .int x1), (2, .int x2), (3, .int x3), (4, .int x4), (5, .int x5), (6, .int w.1)] → W p l e (zR 2) s m args below meth c H locs 0 0 (MQ below (zQi G K r h') args s 0 0 (zA G K)) (F0 m 113 ls [])) (u : Int32 × zH) (hm : g_Model_shift_113 a0 x1 x2 x3 x4 x5 k113 u = some (r, h')) {H : Heap} {locs : List Loc} {ls : Array Slot} (hI : zI G K s (zA G K) H locs u.2) (hl : lv_has ls 7 [(0, .ref (G.1 a0)), (1, .int x1), (2, .int x2), (3, .int x3), (4, .int x4), (5, .int x5), (6, .int u.1)]) : W p l e (zR 2) s m args below meth c H locs 0 0 (MQ below (zQi G K r h') args s 0 0 (zA G K)) (F0 m 113 ls []) := by
  obtain ⟨hx, hb, hml, hown, hts, hr, hlocks, hK, hST, hNs⟩ := id X
  unfold g_Model_shift_113 at hm
  refine lv_iload hx hb d_Model_shift_113 (lv_at hl 6 rfl) ?_
  refine lv_iload hx hb d_Model_shift_115 (lv_at hl 5 rfl) ?_
  refine lv_icmp_ge (tgt := 147) hx hb d_Model_shift_117 (by decide) (fun hc117 => ?_) (fun hc117 => ?_)
  · replace hm := zif_t hc117 hm
    refine lv_iconst (v := (nI 0)) hx hb d_Model_shift_147 (by decide) ?_
    refine lv_istore (lv' := [(6, .int (nI 0)), (0, .ref (G.1 a0)), (1, .int x1), (2, .int x2), (3, .int x3), (4, .int x4), (5, .int x5)]) hx hb d_Model_shift_148 hl (by decide) rfl (fun ls hl => ?_)
    obtain ⟨g1, e1⟩ : ∃ z, z = u.2 := ⟨_, rfl⟩
    rw [← e1] at hm hI
    exact r_Model_shift_150 X a0 x3 x4 x5 zN ((nI 0), g1) hm _ _ _ hI (lv_sub hl [1, 4, 5, 6, 0] rfl)
  · replace hm := zif_f hc117 hm
    refine lv_aload_n hx hb d_Model_shift_120 rfl (lv_at hl 0 rfl) ?_
    obtain ⟨v121, hv, hm⟩ := zbd hm
    refine z_getR X hI F_Model_75 hv d_Model_shift_121 ?_
    refine lv_iload hx hb d_Model_shift_124 (lv_at hl 6 rfl) ?_
    refine lv_aload_n hx hb d_Model_shift_126 rfl (lv_at hl 0 rfl) ?_
    obtain ⟨v127, hv, hm⟩ := zbd hm
    refine z_getR X hI F_Model_71 hv d_Model_shift_127 ?_
    refine lv_bipush (v := (nI 60)) hx hb d_Model_shift_130 (by decide) ?_
    refine lv_iload_n hx hb d_Model_shift_132 rfl (lv_at hl 1 rfl) ?_
    refine lv_imul hx hb d_Model_shift_133 ?_
    refine lv_iload_n hx hb d_Model_shift_134 rfl (lv_at hl 2 rfl) ?_
    refine lv_iadd hx hb d_Model_shift_135 ?_
    refine lv_iload hx hb d_Model_shift_136 (lv_at hl 6 rfl) ?_
    refine lv_iadd hx hb d_Model_shift_138 ?_
    obtain ⟨v139, hv, hm⟩ := zbd hm
    refine z_lald X hI hv d_Model_shift_139 ?_
    obtain ⟨h140, hv, hm⟩ := zbd hm
    refine z_last X hI hv d_Model_shift_140 (fun H locs hI => ?_)
    refine lv_iinc (v := (u.1 + (nI 1))) (lv' := [(6, .int (u.1 + (nI 1))), (0, .ref (G.1 a0)), (1, .int x1), (2, .int x2), (3, .int x3), (4, .int x4), (5, .int x5)]) hx hb d_Model_shift_141 hl (k := 6) rfl (congrArg (fun z => u.1 + z) (show Int32.ofInt (1) = (nI 1) by decide)) (by decide) rfl (fun ls hl => ?_)
    refine lv_goto (tgt := 113) hx hb d_Model_shift_144 (by decide) ?_
    obtain ⟨g0, e0⟩ : ∃ z, z = (u.1 + (nI 1)) := ⟨_, rfl⟩
    rw [← e0] at hm hl
    exact hk113 (g0, h140) hm _ _ _ hI (lv_sub hl [1, 2, 3, 4, 5, 6, 0] rfl)
theorem r_Model_shift_113 {p : Program} {l : Launch} {e : Env} {s : State} {m : MethodId} {args : Array Value} {below : List Frame} {meth : Method} {c : Code} {G : zG} {K : Nat} (X : zX p s m args meth c "AllHomeModel" prog_9_method_75_code 7 (some .int) G (zA G K)) {r : Int32} {h' : zH} (a0 : Nat) (x1 : Int32) (x2 : Int32) (x3 : Int32) (x4 : Int32) (x5 : Int32) : ∀ (n : Nat) (w : Int32 × zH), zloop (g_Model_shift_113 a0 x1 x2 x3 x4 x5) n w = some (r, h') → ∀ (H : Heap) (locs : List Loc) (ls : Array Slot), zI G K s (zA G K) H locs w.2 → lv_has ls 7 [(0, .ref (G.1 a0)), (1, .int x1), (2, .int x2), (3, .int x3), (4, .int x4), (5, .int x5), (6, .int w.1)] → W p l e (zR 2) s m args below meth c H locs 0 0 (MQ below (zQi G K r h') args s 0 0 (zA G K)) (F0 m 113 ls []) := by
  intro n
  induction n with
  | zero => intro w hm; cases hm
  | succ n ih => intro w hm H locs ls hI hl; exact r_Model_shift_113_b X a0 x1 x2 x3 x4 x5 (zloop (g_Model_shift_113 a0 x1 x2 x3 x4 x5) n) ih w (zls hm) hI hl
set_option maxHeartbeats 4000000 in
set_option maxRecDepth 100000 in
theorem r_Model_shift_0 {p : Program} {l : Launch} {e : Env} {s : State} {m : MethodId} {args : Array Value} {below : List Frame} {meth : Method} {c : Code} {G : zG} {K : Nat} (X : zX p s m args meth c "AllHomeModel" prog_9_method_75_code 7 (some .int) G (zA G K)) {r : Int32} {h' : zH} (a0 : Nat) (x1 : Int32) (x2 : Int32) (x3 : Int32) (x4 : Int32) (x5 : Int32) (h : zH) (hm : m_Model_shift a0 x1 x2 x3 x4 x5 h = some (r, h')) {H : Heap} {locs : List Loc} {ls : Array Slot} (hI : zI G K s (zA G K) H locs h) (hl : lv_has ls 7 [(0, .ref (G.1 a0)), (1, .int x1), (2, .int x2), (3, .int x3), (4, .int x4), (5, .int x5)]) : W p l e (zR 2) s m args below meth c H locs 0 0 (MQ below (zQi G K r h') args s 0 0 (zA G K)) (F0 m 0 ls []) := by
  obtain ⟨hx, hb, hml, hown, hts, hr, hlocks, hK, hST, hNs⟩ := id X
  unfold m_Model_shift at hm
  refine lv_iload_n hx hb d_Model_shift_0 rfl (lv_at hl 1 rfl) ?_
  obtain ⟨v1, hv, hm⟩ := zbd hm
  refine z_ci hI (z_runS (As := [.int x1]) (rest := []) X hI hl.1 (c_Model_isShelf l G K x1 h _ hv) C_Model_226 rfl (Nat.le_of_ble_eq_true rfl) ⟨Nat.le_of_ble_eq_true rfl, Nat.le_of_ble_eq_true rfl, Nat.zero_le _, Nat.zero_le _⟩ rfl d_Model_shift_1) (fun H locs hI => ?_)
  refine lv_if_eq (tgt := 14) hx hb d_Model_shift_4 (by decide) (fun hc4 => ?_) (fun hc4 => ?_)
  · replace hm := zif_t hc4 hm
    refine lv_iconst (v := (-1 : Int32)) hx hb d_Model_shift_14 (by decide) ?_
    obtain ⟨rfl, rfl⟩ := zs2 hm
    exact z_iret X hI d_Model_shift_15
  · replace hm := zif_f hc4 hm
    refine lv_iload_n hx hb d_Model_shift_7 rfl (lv_at hl 3 rfl) ?_
    obtain ⟨v8, hv, hm⟩ := zbd hm
    refine z_ci hI (z_runS (As := [.int x3]) (rest := []) X hI hl.1 (c_Model_isShelf l G K x3 h _ hv) C_Model_226 rfl (Nat.le_of_ble_eq_true rfl) ⟨Nat.le_of_ble_eq_true rfl, Nat.le_of_ble_eq_true rfl, Nat.zero_le _, Nat.zero_le _⟩ rfl d_Model_shift_8) (fun H locs hI => ?_)
    refine lv_if_ne (tgt := 16) hx hb d_Model_shift_11 (by decide) (fun hc11 => ?_) (fun hc11 => ?_)
    · replace hm := zif_f hc11 hm
      refine lv_aload_n hx hb d_Model_shift_16 rfl (lv_at hl 0 rfl) ?_
      obtain ⟨v17, hv, hm⟩ := zbd hm
      refine z_getR X hI F_Model_65 hv d_Model_shift_17 ?_
      refine lv_iload_n hx hb d_Model_shift_20 rfl (lv_at hl 1 rfl) ?_
      obtain ⟨v21, hv, hm⟩ := zbd hm
      refine z_iald X hI hv d_Model_shift_21 ?_
      refine lv_if_lt (tgt := 34) hx hb d_Model_shift_22 (by decide) (fun hc22 => ?_) (fun hc22 => ?_)
      · replace hm := zif_t hc22 hm
        refine lv_bipush (v := (-11 : Int32)) hx hb d_Model_shift_34 (by decide) ?_
        obtain ⟨rfl, rfl⟩ := zs2 hm
        exact z_iret X hI d_Model_shift_36
      · replace hm := zif_f hc22 hm
        refine lv_aload_n hx hb d_Model_shift_25 rfl (lv_at hl 0 rfl) ?_
        obtain ⟨v26, hv, hm⟩ := zbd hm
        refine z_getR X hI F_Model_65 hv d_Model_shift_26 ?_
        refine lv_iload_n hx hb d_Model_shift_29 rfl (lv_at hl 3 rfl) ?_
        obtain ⟨v30, hv, hm⟩ := zbd hm
        refine z_iald X hI hv d_Model_shift_30 ?_
        refine lv_if_ge (tgt := 37) hx hb d_Model_shift_31 (by decide) (fun hc31 => ?_) (fun hc31 => ?_)
        · replace hm := zif_t hc31 hm
          refine lv_aload_n hx hb d_Model_shift_37 rfl (lv_at hl 0 rfl) ?_
          obtain ⟨v38, hv, hm⟩ := zbd hm
          refine z_getR X hI F_Model_65 hv d_Model_shift_38 ?_
          refine lv_iload_n hx hb d_Model_shift_41 rfl (lv_at hl 1 rfl) ?_
          obtain ⟨v42, hv, hm⟩ := zbd hm
          refine z_iald X hI hv d_Model_shift_42 ?_
          refine lv_bipush (v := (nI 10)) hx hb d_Model_shift_43 (by decide) ?_
          refine lv_icmp_lt (tgt := 63) hx hb d_Model_shift_45 (by decide) (fun hc45 => ?_) (fun hc45 => ?_)
          · replace hm := zif_t hc45 hm
            refine lv_bipush (v := (-12 : Int32)) hx hb d_Model_shift_63 (by decide) ?_
            obtain ⟨rfl, rfl⟩ := zs2 hm
            exact z_iret X hI d_Model_shift_65
          · replace hm := zif_f hc45 hm
            refine lv_aload_n hx hb d_Model_shift_48 rfl (lv_at hl 0 rfl) ?_
            obtain ⟨v49, hv, hm⟩ := zbd hm
            refine z_getR X hI F_Model_65 hv d_Model_shift_49 ?_
            refine lv_iload_n hx hb d_Model_shift_52 rfl (lv_at hl 1 rfl) ?_
            obtain ⟨v53, hv, hm⟩ := zbd hm
            refine z_iald X hI hv d_Model_shift_53 ?_
            refine lv_aload_n hx hb d_Model_shift_54 rfl (lv_at hl 0 rfl) ?_
            obtain ⟨v55, hv, hm⟩ := zbd hm
            refine z_getR X hI F_Model_65 hv d_Model_shift_55 ?_
            refine lv_iload_n hx hb d_Model_shift_58 rfl (lv_at hl 3 rfl) ?_
            obtain ⟨v59, hv, hm⟩ := zbd hm
            refine z_iald X hI hv d_Model_shift_59 ?_
            refine lv_icmp_eq (tgt := 66) hx hb d_Model_shift_60 (by decide) (fun hc60 => ?_) (fun hc60 => ?_)
            · replace hm := zif_t hc60 hm
              refine lv_iload hx hb d_Model_shift_66 (lv_at hl 5 rfl) ?_
              refine lv_if_lt (tgt := 107) hx hb d_Model_shift_68 (by decide) (fun hc68 => ?_) (fun hc68 => ?_)
              · replace hm := zif_t hc68 hm
                refine lv_bipush (v := (-13 : Int32)) hx hb d_Model_shift_107 (by decide) ?_
                obtain ⟨rfl, rfl⟩ := zs2 hm
                exact z_iret X hI d_Model_shift_109
              · replace hm := zif_f hc68 hm
                refine lv_iload_n hx hb d_Model_shift_71 rfl (lv_at hl 2 rfl) ?_
                refine lv_if_lt (tgt := 107) hx hb d_Model_shift_72 (by decide) (fun hc72 => ?_) (fun hc72 => ?_)
                · replace hm := zif_t hc72 hm
                  refine lv_bipush (v := (-13 : Int32)) hx hb d_Model_shift_107 (by decide) ?_
                  obtain ⟨rfl, rfl⟩ := zs2 hm
                  exact z_iret X hI d_Model_shift_109
                · replace hm := zif_f hc72 hm
                  refine lv_iload hx hb d_Model_shift_75 (lv_at hl 4 rfl) ?_
                  refine lv_if_lt (tgt := 107) hx hb d_Model_shift_77 (by decide) (fun hc77 => ?_) (fun hc77 => ?_)
                  · replace hm := zif_t hc77 hm
                    refine lv_bipush (v := (-13 : Int32)) hx hb d_Model_shift_107 (by decide) ?_
                    obtain ⟨rfl, rfl⟩ := zs2 hm
                    exact z_iret X hI d_Model_shift_109
                  · replace hm := zif_f hc77 hm
                    refine lv_iload_n hx hb d_Model_shift_80 rfl (lv_at hl 2 rfl) ?_
                    refine lv_aload_n hx hb d_Model_shift_81 rfl (lv_at hl 0 rfl) ?_
                    obtain ⟨v82, hv, hm⟩ := zbd hm
                    refine z_getR X hI F_Model_68 hv d_Model_shift_82 ?_
                    refine lv_iload_n hx hb d_Model_shift_85 rfl (lv_at hl 1 rfl) ?_
                    obtain ⟨v86, hv, hm⟩ := zbd hm
                    refine z_iald X hI hv d_Model_shift_86 ?_
                    refine lv_iload hx hb d_Model_shift_87 (lv_at hl 5 rfl) ?_
                    refine lv_isub hx hb d_Model_shift_89 ?_
                    refine lv_icmp_gt (tgt := 107) hx hb d_Model_shift_90 (by decide) (fun hc90 => ?_) (fun hc90 => ?_)
                    · replace hm := zif_t hc90 hm
                      refine lv_bipush (v := (-13 : Int32)) hx hb d_Model_shift_107 (by decide) ?_
                      obtain ⟨rfl, rfl⟩ := zs2 hm
                      exact z_iret X hI d_Model_shift_109
                    · replace hm := zif_f hc90 hm
                      refine lv_iload hx hb d_Model_shift_93 (lv_at hl 4 rfl) ?_
                      refine lv_aload_n hx hb d_Model_shift_95 rfl (lv_at hl 0 rfl) ?_
                      obtain ⟨v96, hv, hm⟩ := zbd hm
                      refine z_getR X hI F_Model_68 hv d_Model_shift_96 ?_
                      refine lv_iload_n hx hb d_Model_shift_99 rfl (lv_at hl 3 rfl) ?_
                      obtain ⟨v100, hv, hm⟩ := zbd hm
                      refine z_iald X hI hv d_Model_shift_100 ?_
                      refine lv_iload hx hb d_Model_shift_101 (lv_at hl 5 rfl) ?_
                      refine lv_isub hx hb d_Model_shift_103 ?_
                      refine lv_icmp_le (tgt := 110) hx hb d_Model_shift_104 (by decide) (fun hc104 => ?_) (fun hc104 => ?_)
                      · replace hm := zif_t hc104 hm
                        refine lv_iconst (v := (nI 0)) hx hb d_Model_shift_110 (by decide) ?_
                        refine lv_istore (lv' := [(6, .int (nI 0)), (0, .ref (G.1 a0)), (1, .int x1), (2, .int x2), (3, .int x3), (4, .int x4), (5, .int x5)]) hx hb d_Model_shift_111 hl (by decide) rfl (fun ls hl => ?_)
                        exact r_Model_shift_113 X a0 x1 x2 x3 x4 x5 zN ((nI 0), h) hm _ _ _ hI (lv_sub hl [1, 2, 3, 4, 5, 6, 0] rfl)
                      · replace hm := zif_f hc104 hm
                        refine lv_bipush (v := (-13 : Int32)) hx hb d_Model_shift_107 (by decide) ?_
                        obtain ⟨rfl, rfl⟩ := zs2 hm
                        exact z_iret X hI d_Model_shift_109
            · replace hm := zif_f hc60 hm
              refine lv_bipush (v := (-12 : Int32)) hx hb d_Model_shift_63 (by decide) ?_
              obtain ⟨rfl, rfl⟩ := zs2 hm
              exact z_iret X hI d_Model_shift_65
        · replace hm := zif_f hc31 hm
          refine lv_bipush (v := (-11 : Int32)) hx hb d_Model_shift_34 (by decide) ?_
          obtain ⟨rfl, rfl⟩ := zs2 hm
          exact z_iret X hI d_Model_shift_36
    · replace hm := zif_t hc11 hm
      refine lv_iconst (v := (-1 : Int32)) hx hb d_Model_shift_14 (by decide) ?_
      obtain ⟨rfl, rfl⟩ := zs2 hm
      exact z_iret X hI d_Model_shift_15
set_option maxHeartbeats 4000000 in
set_option maxRecDepth 100000 in
theorem c_Model_shift (l : Launch) (G : zG) (K : Nat) (a0 : Nat) (x1 : Int32) (x2 : Int32) (x3 : Int32) (x4 : Int32) (x5 : Int32) (h : zH) (r : Int32) (h' : zH) (hm : m_Model_shift a0 x1 x2 x3 x4 x5 h = some (r, h')) : zMi l G K y_Model_shift prog_9_method_75_code 7 2 [.ref (G.1 a0), .int x1, .int x2, .int x3, .int x4, .int x5] h r h' := zMet (by decide +kernel) (Nat.le_of_ble_eq_true rfl) (fun p e s m below meth c ls X hI hl => r_Model_shift_0 X a0 x1 x2 x3 x4 x5 h hm hI hl)
-- walk of AllHomeModel.taken
theorem d_Model_taken_0 : decode prog_9_method_76_code 0 = .ok (.iload_n 1, 1) := by decide +kernel
theorem d_Model_taken_1 : decode prog_9_method_76_code 1 = .ok (.invokestatic 226, 3) := by decide +kernel
theorem d_Model_taken_4 : decode prog_9_method_76_code 4 = .ok (.ifCond .eq 15, 3) := by decide +kernel
theorem d_Model_taken_7 : decode prog_9_method_76_code 7 = .ok (.iload_n 2, 1) := by decide +kernel
theorem d_Model_taken_8 : decode prog_9_method_76_code 8 = .ok (.i2l, 1) := by decide +kernel
theorem d_Model_taken_9 : decode prog_9_method_76_code 9 = .ok (.lconst 0, 1) := by decide +kernel
theorem d_Model_taken_10 : decode prog_9_method_76_code 10 = .ok (.ldc2_w 126, 3) := by decide +kernel
theorem d_Model_taken_13 : decode prog_9_method_76_code 13 = .ok (.invokestatic 87, 3) := by decide +kernel
theorem d_Model_taken_16 : decode prog_9_method_76_code 16 = .ok (.ifCond .ne 5, 3) := by decide +kernel
theorem d_Model_taken_19 : decode prog_9_method_76_code 19 = .ok (.iconst (-1), 1) := by decide +kernel
theorem d_Model_taken_20 : decode prog_9_method_76_code 20 = .ok (.ireturn, 1) := by decide +kernel
theorem d_Model_taken_21 : decode prog_9_method_76_code 21 = .ok (.aload_n 0, 1) := by decide +kernel
theorem d_Model_taken_22 : decode prog_9_method_76_code 22 = .ok (.getfield 65, 3) := by decide +kernel
theorem d_Model_taken_25 : decode prog_9_method_76_code 25 = .ok (.iload_n 1, 1) := by decide +kernel
theorem d_Model_taken_26 : decode prog_9_method_76_code 26 = .ok (.iaload, 1) := by decide +kernel
theorem d_Model_taken_27 : decode prog_9_method_76_code 27 = .ok (.ifCond .ge 6, 3) := by decide +kernel
theorem d_Model_taken_30 : decode prog_9_method_76_code 30 = .ok (.bipush (-11), 2) := by decide +kernel
theorem d_Model_taken_32 : decode prog_9_method_76_code 32 = .ok (.ireturn, 1) := by decide +kernel
theorem d_Model_taken_33 : decode prog_9_method_76_code 33 = .ok (.aload_n 0, 1) := by decide +kernel
theorem d_Model_taken_34 : decode prog_9_method_76_code 34 = .ok (.getfield 65, 3) := by decide +kernel
theorem d_Model_taken_37 : decode prog_9_method_76_code 37 = .ok (.iload_n 1, 1) := by decide +kernel
theorem d_Model_taken_38 : decode prog_9_method_76_code 38 = .ok (.iaload, 1) := by decide +kernel
theorem d_Model_taken_39 : decode prog_9_method_76_code 39 = .ok (.bipush 10, 2) := by decide +kernel
theorem d_Model_taken_41 : decode prog_9_method_76_code 41 = .ok (.if_icmp .lt 6, 3) := by decide +kernel
theorem d_Model_taken_44 : decode prog_9_method_76_code 44 = .ok (.bipush (-12), 2) := by decide +kernel
theorem d_Model_taken_46 : decode prog_9_method_76_code 46 = .ok (.ireturn, 1) := by decide +kernel
theorem d_Model_taken_47 : decode prog_9_method_76_code 47 = .ok (.aload_n 0, 1) := by decide +kernel
theorem d_Model_taken_48 : decode prog_9_method_76_code 48 = .ok (.getfield 19, 3) := by decide +kernel
theorem d_Model_taken_51 : decode prog_9_method_76_code 51 = .ok (.aload_n 0, 1) := by decide +kernel
theorem d_Model_taken_52 : decode prog_9_method_76_code 52 = .ok (.getfield 65, 3) := by decide +kernel
theorem d_Model_taken_55 : decode prog_9_method_76_code 55 = .ok (.iload_n 1, 1) := by decide +kernel
theorem d_Model_taken_56 : decode prog_9_method_76_code 56 = .ok (.iaload, 1) := by decide +kernel
theorem d_Model_taken_57 : decode prog_9_method_76_code 57 = .ok (.iaload, 1) := by decide +kernel
theorem d_Model_taken_58 : decode prog_9_method_76_code 58 = .ok (.istore_n 3, 1) := by decide +kernel
theorem d_Model_taken_59 : decode prog_9_method_76_code 59 = .ok (.iload_n 3, 1) := by decide +kernel
theorem d_Model_taken_60 : decode prog_9_method_76_code 60 = .ok (.iload_n 2, 1) := by decide +kernel
theorem d_Model_taken_61 : decode prog_9_method_76_code 61 = .ok (.if_icmp .eq 15, 3) := by decide +kernel
theorem d_Model_taken_64 : decode prog_9_method_76_code 64 = .ok (.iload_n 3, 1) := by decide +kernel
theorem d_Model_taken_65 : decode prog_9_method_76_code 65 = .ok (.ifCond .le 11, 3) := by decide +kernel
theorem d_Model_taken_68 : decode prog_9_method_76_code 68 = .ok (.iload_n 3, 1) := by decide +kernel
theorem d_Model_taken_69 : decode prog_9_method_76_code 69 = .ok (.invokestatic 131, 3) := by decide +kernel
theorem d_Model_taken_72 : decode prog_9_method_76_code 72 = .ok (.istore_n 3, 1) := by decide +kernel
theorem d_Model_taken_73 : decode prog_9_method_76_code 73 = .ok (.goto (-14), 3) := by decide +kernel
theorem d_Model_taken_76 : decode prog_9_method_76_code 76 = .ok (.iload_n 3, 1) := by decide +kernel
theorem d_Model_taken_77 : decode prog_9_method_76_code 77 = .ok (.iload_n 2, 1) := by decide +kernel
theorem d_Model_taken_78 : decode prog_9_method_76_code 78 = .ok (.if_icmp .ne 17, 3) := by decide +kernel
theorem d_Model_taken_81 : decode prog_9_method_76_code 81 = .ok (.aload_n 0, 1) := by decide +kernel
theorem d_Model_taken_82 : decode prog_9_method_76_code 82 = .ok (.getfield 19, 3) := by decide +kernel
theorem d_Model_taken_85 : decode prog_9_method_76_code 85 = .ok (.aload_n 0, 1) := by decide +kernel
theorem d_Model_taken_86 : decode prog_9_method_76_code 86 = .ok (.getfield 65, 3) := by decide +kernel
theorem d_Model_taken_89 : decode prog_9_method_76_code 89 = .ok (.iload_n 1, 1) := by decide +kernel
theorem d_Model_taken_90 : decode prog_9_method_76_code 90 = .ok (.iaload, 1) := by decide +kernel
theorem d_Model_taken_91 : decode prog_9_method_76_code 91 = .ok (.iaload, 1) := by decide +kernel
theorem d_Model_taken_92 : decode prog_9_method_76_code 92 = .ok (.goto 5, 3) := by decide +kernel
theorem d_Model_taken_95 : decode prog_9_method_76_code 95 = .ok (.bipush (-12), 2) := by decide +kernel
theorem d_Model_taken_97 : decode prog_9_method_76_code 97 = .ok (.ireturn, 1) := by decide +kernel
set_option maxHeartbeats 4000000 in
set_option maxRecDepth 100000 in
theorem r_Model_taken_76 {p : Program} {l : Launch} {e : Env} {s : State} {m : MethodId} {args : Array Value} {below : List Frame} {meth : Method} {c : Code} {G : zG} {K : Nat} (X : zX p s m args meth c "AllHomeModel" prog_9_method_76_code 4 (some .int) G (zA G K)) {r : Int32} (a0 : Nat) (x1 : Int32) (x2 : Int32) (x3 : Int32) (h : zH) (hm : g_Model_taken_76 a0 x1 x2 x3 h = some r) {H : Heap} {locs : List Loc} {ls : Array Slot} (hI : zI G K s (zA G K) H locs h) (hl : lv_has ls 4 [(0, .ref (G.1 a0)), (1, .int x1), (2, .int x2), (3, .int x3)]) : W p l e (zR 2) s m args below meth c H locs 0 0 (MQ below (zQi G K r h) args s 0 0 (zA G K)) (F0 m 76 ls []) := by
  obtain ⟨hx, hb, hml, hown, hts, hr, hlocks, hK, hST, hNs⟩ := id X
  unfold g_Model_taken_76 at hm
  refine lv_iload_n hx hb d_Model_taken_76 rfl (lv_at hl 3 rfl) ?_
  refine lv_iload_n hx hb d_Model_taken_77 rfl (lv_at hl 2 rfl) ?_
  refine lv_icmp_ne (tgt := 95) hx hb d_Model_taken_78 (by decide) (fun hc78 => ?_) (fun hc78 => ?_)
  · replace hm := zif_f hc78 hm
    refine lv_bipush (v := (-12 : Int32)) hx hb d_Model_taken_95 (by decide) ?_
    obtain rfl := zs1 hm
    exact z_iret X hI d_Model_taken_97
  · replace hm := zif_t hc78 hm
    refine lv_aload_n hx hb d_Model_taken_81 rfl (lv_at hl 0 rfl) ?_
    obtain ⟨v82, hv, hm⟩ := zbd hm
    refine z_getR X hI F_Model_19 hv d_Model_taken_82 ?_
    refine lv_aload_n hx hb d_Model_taken_85 rfl (lv_at hl 0 rfl) ?_
    obtain ⟨v86, hv, hm⟩ := zbd hm
    refine z_getR X hI F_Model_65 hv d_Model_taken_86 ?_
    refine lv_iload_n hx hb d_Model_taken_89 rfl (lv_at hl 1 rfl) ?_
    obtain ⟨v90, hv, hm⟩ := zbd hm
    refine z_iald X hI hv d_Model_taken_90 ?_
    obtain ⟨v91, hv, hm⟩ := zbd hm
    refine z_iald X hI hv d_Model_taken_91 ?_
    refine lv_goto (tgt := 97) hx hb d_Model_taken_92 (by decide) ?_
    obtain rfl := zs1 hm
    exact z_iret X hI d_Model_taken_97
set_option maxHeartbeats 4000000 in
set_option maxRecDepth 100000 in
theorem r_Model_taken_59_b {p : Program} {l : Launch} {e : Env} {s : State} {m : MethodId} {args : Array Value} {below : List Frame} {meth : Method} {c : Code} {G : zG} {K : Nat} (X : zX p s m args meth c "AllHomeModel" prog_9_method_76_code 4 (some .int) G (zA G K)) {r : Int32} (a0 : Nat) (x1 : Int32) (x2 : Int32) (h : zH) (k59 : (Int32) → Option Int32) (hk59 : ∀ (w : Int32), k59 w = some r → ∀ (H : Heap) (locs : List Loc) (ls : Array Slot), zI G K s (zA G K) H locs h → lv_has ls 4 [(0, .ref (G.1 a0)), (1, .int x1), (2, .int x2), (3, .int w)] → W p l e (zR 2) s m args below meth c H locs 0 0 (MQ below (zQi G K r h) args s 0 0 (zA G K)) (F0 m 59 ls [])) (u : Int32) (hm : g_Model_taken_59 a0 x1 x2 h k59 u = some r) {H : Heap} {locs : List Loc} {ls : Array Slot} (hI : zI G K s (zA G K) H locs h) (hl : lv_has ls 4 [(0, .ref (G.1 a0)), (1, .int x1), (2, .int x2), (3, .int u)]) : W p l e (zR 2) s m args below meth c H locs 0 0 (MQ below (zQi G K r h) args s 0 0 (zA G K)) (F0 m 59 ls []) := by
  obtain ⟨hx, hb, hml, hown, hts, hr, hlocks, hK, hST, hNs⟩ := id X
  unfold g_Model_taken_59 at hm
  refine lv_iload_n hx hb d_Model_taken_59 rfl (lv_at hl 3 rfl) ?_
  refine lv_iload_n hx hb d_Model_taken_60 rfl (lv_at hl 2 rfl) ?_
  refine lv_icmp_eq (tgt := 76) hx hb d_Model_taken_61 (by decide) (fun hc61 => ?_) (fun hc61 => ?_)
  · replace hm := zif_t hc61 hm
    exact r_Model_taken_76 X a0 x1 x2 u h hm hI (lv_sub hl [0, 1, 2, 3] rfl)
  · replace hm := zif_f hc61 hm
    refine lv_iload_n hx hb d_Model_taken_64 rfl (lv_at hl 3 rfl) ?_
    refine lv_if_le (tgt := 76) hx hb d_Model_taken_65 (by decide) (fun hc65 => ?_) (fun hc65 => ?_)
    · replace hm := zif_t hc65 hm
      exact r_Model_taken_76 X a0 x1 x2 u h hm hI (lv_sub hl [0, 1, 2, 3] rfl)
    · replace hm := zif_f hc65 hm
      refine lv_iload_n hx hb d_Model_taken_68 rfl (lv_at hl 3 rfl) ?_
      obtain ⟨v69, hv, hm⟩ := zbd hm
      refine z_ci hI (z_runS (As := [.int u]) (rest := []) X hI hl.1 (c_Model_above l G K u h _ hv) C_Model_131 rfl (Nat.le_of_ble_eq_true rfl) ⟨Nat.le_of_ble_eq_true rfl, Nat.le_of_ble_eq_true rfl, Nat.zero_le _, Nat.zero_le _⟩ rfl d_Model_taken_69) (fun H locs hI => ?_)
      refine lv_istore_n (lv' := [(3, .int v69), (0, .ref (G.1 a0)), (1, .int x1), (2, .int x2)]) hx hb d_Model_taken_72 rfl hl (by decide) rfl (fun ls hl => ?_)
      refine lv_goto (tgt := 59) hx hb d_Model_taken_73 (by decide) ?_
      exact hk59 v69 hm _ _ _ hI (lv_sub hl [1, 2, 3, 0] rfl)
theorem r_Model_taken_59 {p : Program} {l : Launch} {e : Env} {s : State} {m : MethodId} {args : Array Value} {below : List Frame} {meth : Method} {c : Code} {G : zG} {K : Nat} (X : zX p s m args meth c "AllHomeModel" prog_9_method_76_code 4 (some .int) G (zA G K)) {r : Int32} (a0 : Nat) (x1 : Int32) (x2 : Int32) (h : zH) : ∀ (n : Nat) (w : Int32), zloop (g_Model_taken_59 a0 x1 x2 h) n w = some r → ∀ (H : Heap) (locs : List Loc) (ls : Array Slot), zI G K s (zA G K) H locs h → lv_has ls 4 [(0, .ref (G.1 a0)), (1, .int x1), (2, .int x2), (3, .int w)] → W p l e (zR 2) s m args below meth c H locs 0 0 (MQ below (zQi G K r h) args s 0 0 (zA G K)) (F0 m 59 ls []) := by
  intro n
  induction n with
  | zero => intro w hm; cases hm
  | succ n ih => intro w hm H locs ls hI hl; exact r_Model_taken_59_b X a0 x1 x2 h (zloop (g_Model_taken_59 a0 x1 x2 h) n) ih w (zls hm) hI hl
set_option maxHeartbeats 4000000 in
set_option maxRecDepth 100000 in
theorem r_Model_taken_0 {p : Program} {l : Launch} {e : Env} {s : State} {m : MethodId} {args : Array Value} {below : List Frame} {meth : Method} {c : Code} {G : zG} {K : Nat} (X : zX p s m args meth c "AllHomeModel" prog_9_method_76_code 4 (some .int) G (zA G K)) {r : Int32} (a0 : Nat) (x1 : Int32) (x2 : Int32) (h : zH) (hm : m_Model_taken a0 x1 x2 h = some r) {H : Heap} {locs : List Loc} {ls : Array Slot} (hI : zI G K s (zA G K) H locs h) (hl : lv_has ls 4 [(0, .ref (G.1 a0)), (1, .int x1), (2, .int x2)]) : W p l e (zR 2) s m args below meth c H locs 0 0 (MQ below (zQi G K r h) args s 0 0 (zA G K)) (F0 m 0 ls []) := by
  obtain ⟨hx, hb, hml, hown, hts, hr, hlocks, hK, hST, hNs⟩ := id X
  unfold m_Model_taken at hm
  refine lv_iload_n hx hb d_Model_taken_0 rfl (lv_at hl 1 rfl) ?_
  obtain ⟨v1, hv, hm⟩ := zbd hm
  refine z_ci hI (z_runS (As := [.int x1]) (rest := []) X hI hl.1 (c_Model_isShelf l G K x1 h _ hv) C_Model_226 rfl (Nat.le_of_ble_eq_true rfl) ⟨Nat.le_of_ble_eq_true rfl, Nat.le_of_ble_eq_true rfl, Nat.zero_le _, Nat.zero_le _⟩ rfl d_Model_taken_1) (fun H locs hI => ?_)
  refine lv_if_eq (tgt := 19) hx hb d_Model_taken_4 (by decide) (fun hc4 => ?_) (fun hc4 => ?_)
  · replace hm := zif_t hc4 hm
    refine lv_iconst (v := (-1 : Int32)) hx hb d_Model_taken_19 (by decide) ?_
    obtain rfl := zs1 hm
    exact z_iret X hI d_Model_taken_20
  · replace hm := zif_f hc4 hm
    refine lv_iload_n hx hb d_Model_taken_7 rfl (lv_at hl 2 rfl) ?_
    refine lv_i2l hx hb d_Model_taken_8 rfl ?_
    refine lv_lconst (v := 0) hx hb d_Model_taken_9 (by decide) ?_
    refine lv_ldc2 hx hb hown (hts _ kw821) d_Model_taken_10 ?_
    obtain ⟨v13, hv, hm⟩ := zbd hm
    refine z_ci hI (z_runS (As := [.long x2.toInt64, .long (0 : Int64), .long (8 : Int64)]) (rest := []) X hI hl.1 (c_Model_within l G K x2.toInt64 (0 : Int64) (8 : Int64) h _ hv) C_Model_87 rfl (Nat.le_of_ble_eq_true rfl) ⟨Nat.le_of_ble_eq_true rfl, Nat.le_of_ble_eq_true rfl, Nat.zero_le _, Nat.zero_le _⟩ rfl d_Model_taken_13) (fun H locs hI => ?_)
    refine lv_if_ne (tgt := 21) hx hb d_Model_taken_16 (by decide) (fun hc16 => ?_) (fun hc16 => ?_)
    · replace hm := zif_f hc16 hm
      refine lv_aload_n hx hb d_Model_taken_21 rfl (lv_at hl 0 rfl) ?_
      obtain ⟨v22, hv, hm⟩ := zbd hm
      refine z_getR X hI F_Model_65 hv d_Model_taken_22 ?_
      refine lv_iload_n hx hb d_Model_taken_25 rfl (lv_at hl 1 rfl) ?_
      obtain ⟨v26, hv, hm⟩ := zbd hm
      refine z_iald X hI hv d_Model_taken_26 ?_
      refine lv_if_ge (tgt := 33) hx hb d_Model_taken_27 (by decide) (fun hc27 => ?_) (fun hc27 => ?_)
      · replace hm := zif_t hc27 hm
        refine lv_aload_n hx hb d_Model_taken_33 rfl (lv_at hl 0 rfl) ?_
        obtain ⟨v34, hv, hm⟩ := zbd hm
        refine z_getR X hI F_Model_65 hv d_Model_taken_34 ?_
        refine lv_iload_n hx hb d_Model_taken_37 rfl (lv_at hl 1 rfl) ?_
        obtain ⟨v38, hv, hm⟩ := zbd hm
        refine z_iald X hI hv d_Model_taken_38 ?_
        refine lv_bipush (v := (nI 10)) hx hb d_Model_taken_39 (by decide) ?_
        refine lv_icmp_lt (tgt := 47) hx hb d_Model_taken_41 (by decide) (fun hc41 => ?_) (fun hc41 => ?_)
        · replace hm := zif_t hc41 hm
          refine lv_aload_n hx hb d_Model_taken_47 rfl (lv_at hl 0 rfl) ?_
          obtain ⟨v48, hv, hm⟩ := zbd hm
          refine z_getR X hI F_Model_19 hv d_Model_taken_48 ?_
          refine lv_aload_n hx hb d_Model_taken_51 rfl (lv_at hl 0 rfl) ?_
          obtain ⟨v52, hv, hm⟩ := zbd hm
          refine z_getR X hI F_Model_65 hv d_Model_taken_52 ?_
          refine lv_iload_n hx hb d_Model_taken_55 rfl (lv_at hl 1 rfl) ?_
          obtain ⟨v56, hv, hm⟩ := zbd hm
          refine z_iald X hI hv d_Model_taken_56 ?_
          obtain ⟨v57, hv, hm⟩ := zbd hm
          refine z_iald X hI hv d_Model_taken_57 ?_
          refine lv_istore_n (lv' := [(3, .int v57), (0, .ref (G.1 a0)), (1, .int x1), (2, .int x2)]) hx hb d_Model_taken_58 rfl hl (by decide) rfl (fun ls hl => ?_)
          exact r_Model_taken_59 X a0 x1 x2 h zN v57 hm _ _ _ hI (lv_sub hl [1, 2, 3, 0] rfl)
        · replace hm := zif_f hc41 hm
          refine lv_bipush (v := (-12 : Int32)) hx hb d_Model_taken_44 (by decide) ?_
          obtain rfl := zs1 hm
          exact z_iret X hI d_Model_taken_46
      · replace hm := zif_f hc27 hm
        refine lv_bipush (v := (-11 : Int32)) hx hb d_Model_taken_30 (by decide) ?_
        obtain rfl := zs1 hm
        exact z_iret X hI d_Model_taken_32
    · replace hm := zif_t hc16 hm
      refine lv_iconst (v := (-1 : Int32)) hx hb d_Model_taken_19 (by decide) ?_
      obtain rfl := zs1 hm
      exact z_iret X hI d_Model_taken_20
set_option maxHeartbeats 4000000 in
set_option maxRecDepth 100000 in
theorem c_Model_taken (l : Launch) (G : zG) (K : Nat) (a0 : Nat) (x1 : Int32) (x2 : Int32) (h : zH) (r : Int32) (hm : m_Model_taken a0 x1 x2 h = some r) : zMi l G K y_Model_taken prog_9_method_76_code 4 2 [.ref (G.1 a0), .int x1, .int x2] h r h := zMet (by decide +kernel) (Nat.le_of_ble_eq_true rfl) (fun p e s m below meth c ls X hI hl => r_Model_taken_0 X a0 x1 x2 h hm hI hl)
-- walk of AllHomeModel.count
theorem d_Model_count_0 : decode prog_9_method_77_code 0 = .ok (.iload_n 1, 1) := by decide +kernel
theorem d_Model_count_1 : decode prog_9_method_77_code 1 = .ok (.tableswitch 60 0 4 #[35, 40, 45, 50, 55], 35) := by decide +kernel
theorem d_Model_count_36 : decode prog_9_method_77_code 36 = .ok (.aload_n 0, 1) := by decide +kernel
theorem d_Model_count_37 : decode prog_9_method_77_code 37 = .ok (.getfield 78, 3) := by decide +kernel
theorem d_Model_count_40 : decode prog_9_method_77_code 40 = .ok (.ireturn, 1) := by decide +kernel
theorem d_Model_count_41 : decode prog_9_method_77_code 41 = .ok (.aload_n 0, 1) := by decide +kernel
theorem d_Model_count_42 : decode prog_9_method_77_code 42 = .ok (.getfield 82, 3) := by decide +kernel
theorem d_Model_count_45 : decode prog_9_method_77_code 45 = .ok (.ireturn, 1) := by decide +kernel
theorem d_Model_count_46 : decode prog_9_method_77_code 46 = .ok (.aload_n 0, 1) := by decide +kernel
theorem d_Model_count_47 : decode prog_9_method_77_code 47 = .ok (.getfield 106, 3) := by decide +kernel
theorem d_Model_count_50 : decode prog_9_method_77_code 50 = .ok (.ireturn, 1) := by decide +kernel
theorem d_Model_count_51 : decode prog_9_method_77_code 51 = .ok (.aload_n 0, 1) := by decide +kernel
theorem d_Model_count_52 : decode prog_9_method_77_code 52 = .ok (.getfield 91, 3) := by decide +kernel
theorem d_Model_count_55 : decode prog_9_method_77_code 55 = .ok (.ireturn, 1) := by decide +kernel
theorem d_Model_count_56 : decode prog_9_method_77_code 56 = .ok (.aload_n 0, 1) := by decide +kernel
theorem d_Model_count_57 : decode prog_9_method_77_code 57 = .ok (.getfield 264, 3) := by decide +kernel
theorem d_Model_count_60 : decode prog_9_method_77_code 60 = .ok (.ireturn, 1) := by decide +kernel
theorem d_Model_count_61 : decode prog_9_method_77_code 61 = .ok (.iconst (-1), 1) := by decide +kernel
theorem d_Model_count_62 : decode prog_9_method_77_code 62 = .ok (.ireturn, 1) := by decide +kernel
set_option maxHeartbeats 4000000 in
set_option maxRecDepth 100000 in
theorem r_Model_count_0 {p : Program} {l : Launch} {e : Env} {s : State} {m : MethodId} {args : Array Value} {below : List Frame} {meth : Method} {c : Code} {G : zG} {K : Nat} (X : zX p s m args meth c "AllHomeModel" prog_9_method_77_code 2 (some .int) G (zA G K)) {r : Int32} (a0 : Nat) (x1 : Int32) (h : zH) (hm : m_Model_count a0 x1 h = some r) {H : Heap} {locs : List Loc} {ls : Array Slot} (hI : zI G K s (zA G K) H locs h) (hl : lv_has ls 2 [(0, .ref (G.1 a0)), (1, .int x1)]) : W p l e (zR 0) s m args below meth c H locs 0 0 (MQ below (zQi G K r h) args s 0 0 (zA G K)) (F0 m 0 ls []) := by
  obtain ⟨hx, hb, hml, hown, hts, hr, hlocks, hK, hST, hNs⟩ := id X
  unfold m_Model_count at hm
  refine lv_iload_n hx hb d_Model_count_0 rfl (lv_at hl 1 rfl) ?_
  by_cases hs1_0 : x1 = (nI 0)
  · replace hm := zif_t hs1_0 hm
    refine lv_tableIn (off := 35) (tgt := 36) hx hb d_Model_count_1 (by rw [hs1_0]; decide) (by rw [hs1_0]; decide) (by rw [hs1_0]; rfl) (by decide) ?_
    refine lv_aload_n hx hb d_Model_count_36 rfl (lv_at hl 0 rfl) ?_
    obtain ⟨v37, hv, hm⟩ := zbd hm
    refine z_getI X hI F_Model_78 hv d_Model_count_37 ?_
    obtain rfl := zs1 hm
    exact z_iret X hI d_Model_count_40
  · replace hm := zif_f hs1_0 hm
    by_cases hs1_1 : x1 = (nI 1)
    · replace hm := zif_t hs1_1 hm
      refine lv_tableIn (off := 40) (tgt := 41) hx hb d_Model_count_1 (by rw [hs1_1]; decide) (by rw [hs1_1]; decide) (by rw [hs1_1]; rfl) (by decide) ?_
      refine lv_aload_n hx hb d_Model_count_41 rfl (lv_at hl 0 rfl) ?_
      obtain ⟨v42, hv, hm⟩ := zbd hm
      refine z_getI X hI F_Model_82 hv d_Model_count_42 ?_
      obtain rfl := zs1 hm
      exact z_iret X hI d_Model_count_45
    · replace hm := zif_f hs1_1 hm
      by_cases hs1_2 : x1 = (nI 2)
      · replace hm := zif_t hs1_2 hm
        refine lv_tableIn (off := 45) (tgt := 46) hx hb d_Model_count_1 (by rw [hs1_2]; decide) (by rw [hs1_2]; decide) (by rw [hs1_2]; rfl) (by decide) ?_
        refine lv_aload_n hx hb d_Model_count_46 rfl (lv_at hl 0 rfl) ?_
        obtain ⟨v47, hv, hm⟩ := zbd hm
        refine z_getI X hI F_Model_106 hv d_Model_count_47 ?_
        obtain rfl := zs1 hm
        exact z_iret X hI d_Model_count_50
      · replace hm := zif_f hs1_2 hm
        by_cases hs1_3 : x1 = (nI 3)
        · replace hm := zif_t hs1_3 hm
          refine lv_tableIn (off := 50) (tgt := 51) hx hb d_Model_count_1 (by rw [hs1_3]; decide) (by rw [hs1_3]; decide) (by rw [hs1_3]; rfl) (by decide) ?_
          refine lv_aload_n hx hb d_Model_count_51 rfl (lv_at hl 0 rfl) ?_
          obtain ⟨v52, hv, hm⟩ := zbd hm
          refine z_getI X hI F_Model_91 hv d_Model_count_52 ?_
          obtain rfl := zs1 hm
          exact z_iret X hI d_Model_count_55
        · replace hm := zif_f hs1_3 hm
          by_cases hs1_4 : x1 = (nI 4)
          · replace hm := zif_t hs1_4 hm
            refine lv_tableIn (off := 55) (tgt := 56) hx hb d_Model_count_1 (by rw [hs1_4]; decide) (by rw [hs1_4]; decide) (by rw [hs1_4]; rfl) (by decide) ?_
            refine lv_aload_n hx hb d_Model_count_56 rfl (lv_at hl 0 rfl) ?_
            obtain ⟨v57, hv, hm⟩ := zbd hm
            refine z_getI X hI F_Model_264 hv d_Model_count_57 ?_
            obtain rfl := zs1 hm
            exact z_iret X hI d_Model_count_60
          · replace hm := zif_f hs1_4 hm
            have he0 : (x1).toInt ≠ 0 := fun q => hs1_0 (Int32.toInt_inj.mp (q.trans (by decide)))
            have he1 : (x1).toInt ≠ 1 := fun q => hs1_1 (Int32.toInt_inj.mp (q.trans (by decide)))
            have he2 : (x1).toInt ≠ 2 := fun q => hs1_2 (Int32.toInt_inj.mp (q.trans (by decide)))
            have he3 : (x1).toInt ≠ 3 := fun q => hs1_3 (Int32.toInt_inj.mp (q.trans (by decide)))
            have he4 : (x1).toInt ≠ 4 := fun q => hs1_4 (Int32.toInt_inj.mp (q.trans (by decide)))
            refine lv_tableOut (tgt := 61) hx hb d_Model_count_1 (by omega) (by decide) ?_
            refine lv_iconst (v := (-1 : Int32)) hx hb d_Model_count_61 (by decide) ?_
            obtain rfl := zs1 hm
            exact z_iret X hI d_Model_count_62
set_option maxHeartbeats 4000000 in
set_option maxRecDepth 100000 in
theorem c_Model_count (l : Launch) (G : zG) (K : Nat) (a0 : Nat) (x1 : Int32) (h : zH) (r : Int32) (hm : m_Model_count a0 x1 h = some r) : zMi l G K y_Model_count prog_9_method_77_code 2 0 [.ref (G.1 a0), .int x1] h r h := zMet (by decide +kernel) (Nat.le_of_ble_eq_true rfl) (fun p e s m below meth c ls X hI hl => r_Model_count_0 X a0 x1 h hm hI hl)
