/-! KINDS AND THE KINDS ABOVE; ASKING, LEAVING, SEEING, A STEP, THE BEGINNING -/
def chain : Nat → List Nat := fun k => match k with
  | 0 => [0]
  | 1 => [1, 0]
  | 2 => [2, 0]
  | 3 => [3, 0]
  | 4 => [4, 3, 0]
  | 5 => [5, 3, 0]
  | 6 => [6, 2, 0]
  | 7 => [7, 4, 3, 0]
  | _ => [8, 5, 3, 0]
theorem zN10 : ∃ m, zN = m + 12 := ⟨zN - 12, by have := zN_big; omega⟩
theorem under_tab : ∀ kd, kd < 9 → ∀ k, k < 9 → ∀ (m : Nat) (h : zH), zloop (g_Home_isUnder_4 (nI k) h) (m + 12) (nI kd, nI 0) = some (if k ∈ chain kd then nI 1 else nI 0) := by
  intro kd hkd k hk m h
  rcases (show kd = 0 ∨ kd = 1 ∨ kd = 2 ∨ kd = 3 ∨ kd = 4 ∨ kd = 5 ∨ kd = 6 ∨ kd = 7 ∨ kd = 8 by omega) with rfl | rfl | rfl | rfl | rfl | rfl | rfl | rfl | rfl <;>
  rcases (show k = 0 ∨ k = 1 ∨ k = 2 ∨ k = 3 ∨ k = 4 ∨ k = 5 ∨ k = 6 ∨ k = 7 ∨ k = 8 by omega) with rfl | rfl | rfl | rfl | rfl | rfl | rfl | rfl | rfl <;> rfl
theorem s_under {kd k : Nat} (hkd : kd < 9) (hk : k < 9) (h : zH) : m_Home_isUnder (nI kd) (nI k) h = some (if k ∈ chain kd then nI 1 else nI 0) := by
  obtain ⟨m, hm⟩ := zN10
  unfold m_Home_isUnder
  rw [hm]
  exact under_tab kd hkd k hk m h
theorem ring_fm {kd : Nat} (hkd : kd < 9) : (3 ∈ chain kd) ↔ (fmo kd = 3 ∨ fmo kd = 4 ∨ fmo kd = 5) := by
  rcases (show kd = 0 ∨ kd = 1 ∨ kd = 2 ∨ kd = 3 ∨ kd = 4 ∨ kd = 5 ∨ kd = 6 ∨ kd = 7 ∨ kd = 8 by omega) with rfl | rfl | rfl | rfl | rfl | rfl | rfl | rfl | rfl <;> decide
theorem fmo_lt (kd : Nat) : fmo kd < 6 := by
  unfold fmo
  split <;> omega
section RY
variable {h : zH} {a r : Nat} {g : Nat → Int32} {kd fm n : Nat} {nw : Nat → Int32 → Nat} {go : Nat → Int32 → Nat → Nat}
theorem s_ask (hr : h r = ruE kd fm) (hkd : kd < 9) (hf : fm = fmo kd) (q : r ≠ a) (ha : 18 ≤ a) (H : HU n nw go h) (hn0 : 0 < n) {k : Nat} (hk : g 43 = nI k) (k8 : k ≤ 8) : m_Rules_ask r a (nI 0) (zup h a (zI32 123 g)) = some ((aAsk fm n g).1, zup h a (zI32 123 (aAsk fm n g).2)) := by
  have hn := hu_n H
  have hfm : fm < 6 := by rw [hf]; exact fmo_lt kd
  have hring := ring_fm hkd
  rw [← hf] at hring
  unfold aAsk
  by_cases c1 : fm = 3 ∨ fm = 4 ∨ fm = 5
  · have hin : (3 ∈ chain kd) = True := eq_true (hring.mpr c1)
    by_cases c2 : 0 < k
    · have c2' : 0 < g 43 := by rw [hk, nI_0lt (by omega)]; exact c2
      rw [if_neg (fun z => z.2.1 c2')]
      simp (disch := omega) only [m_Rules_ask, nI0_0, if_true, rl_kind hr q, bind_some', s_under hkd, hin, nI1_0, if_false, zaI, zA32_ld, eq_true c2']
    · have c2' : ¬ 0 < g 43 := by rw [hk, nI_0lt (by omega)]; exact c2
      by_cases c3 : g 0 = nI 1
      · rw [if_neg (fun z => z.2.2 c3)]
        simp (disch := omega) only [m_Rules_ask, nI0_0, if_true, rl_kind hr q, bind_some', s_under hkd, hin, nI1_0, if_false, zaI, zA32_ld, eq_false c2', eq_true c3]
      · rw [if_pos ⟨c1, c2', c3⟩]
        have b0 : ∀ e, zrI (zup h a e) r 3 2 = some (nI fm) := rl_fam hr q
        by_cases f4 : fm = 4
        · subst f4
          simp (disch := omega) only [m_Rules_ask, nI0_0, if_true, rl_kind hr q, bind_some', s_under hkd, hin, nI1_0, if_false, zaI, zA32_ld, eq_false c2', eq_false c3, b0, zsI, zS32_st, rl_huts hr q, hu_zcv H ha, hu_size H ha, nI_subn]
          rw [s_note (k := k) (by rw [upd_ne (by omega)]; exact hk) k8]
          rfl
        · by_cases f5 : fm = 5
          · subst f5
            have n54 : (nI 5 = nI 4) = False := by rw [nI_eq_iff (by omega) (by omega)]; simp
            by_cases c4 : n ≤ 1
            · simp (disch := omega) only [m_Rules_ask, nI0_0, if_true, rl_kind hr q, bind_some', s_under hkd, hin, nI1_0, if_false, zaI, zA32_ld, eq_false c2', eq_false c3, b0, n54, rl_huts hr q, hu_zcv H ha, hu_size H ha, nI_le_iff, eq_true c4]
              rw [s_note hk k8]
              rfl
            · simp (disch := omega) only [m_Rules_ask, nI0_0, if_true, rl_kind hr q, bind_some', s_under hkd, hin, nI1_0, if_false, zaI, zA32_ld, eq_false c2', eq_false c3, b0, n54, rl_huts hr q, hu_zcv H ha, hu_size H ha, nI_le_iff, eq_false c4]
              rw [s_note hk k8]
              rfl
          · rw [if_neg f4, if_neg f5]
            simp (disch := omega) only [m_Rules_ask, nI0_0, if_true, rl_kind hr q, bind_some', s_under hkd, hin, nI1_0, if_false, zaI, zA32_ld, eq_false c2', eq_false c3, b0, nI_eq_iff, eq_false f4, eq_false f5]
  · rw [if_neg (fun z => c1 z.1)]
    have hin : (3 ∈ chain kd) = False := eq_false (fun z => c1 (hring.mp z))
    simp (disch := omega) only [m_Rules_ask, nI0_0, if_true, rl_kind hr q, bind_some', s_under hkd, hin, if_false]
theorem s_ask_no {x : Int32} (hx : ¬ x = 0) : m_Rules_ask r a x (zup h a (zI32 123 g)) = some (-5, zup h a (zI32 123 g)) := by
  simp only [m_Rules_ask, hx, if_false]
/-- a note that is put or not: other cells stay -/
theorem aNote_lo {to x y : Int32} {k : Nat} (hk : k < 43) : (aNote g to x y).2 k = g k := by
  unfold aNote
  split
  · rename_i c
    show pushN g (cnt g 43) to x y k = g k
    unfold pushN
    rw [upd_ne (by omega), upd_ne (by omega), upd_ne (by omega), upd_ne (by omega), upd_ne (by omega)]
  · rfl
theorem aNote_hi {to x y : Int32} {k : Nat} (hk : 68 ≤ k) (h2 : k ≠ 122) : (aNote g to x y).2 k = g k := by
  unfold aNote
  split
  · rename_i c
    show pushN g (cnt g 43) to x y k = g k
    unfold pushN
    rw [upd_ne (by omega), upd_ne (by omega), upd_ne (by omega), upd_ne (by omega), upd_ne (by omega)]
  · rfl
theorem aNote_43 {to x y : Int32} {k : Nat} (hk : g 43 = nI k) (k8 : k ≤ 8) : ∃ k', k' ≤ 8 ∧ (aNote g to x y).2 43 = nI k' := by
  unfold aNote
  rw [cnt_nI hk (by omega)]
  split
  · refine ⟨k + 1, by omega, ?_⟩
    show pushN g k to x y 43 = _
    unfold pushN
    rw [upd_ne (by omega), upd_eq]
  · exact ⟨k, k8, hk⟩
theorem lvS_43 {hh k : Nat} (hh6 : hh < 6) (hk : g 43 = nI k) (k8 : k ≤ 8) : ∃ k', k' ≤ 8 ∧ (lvS kd g hh).2 43 = nI k' := by
  unfold lvS
  split
  · obtain ⟨k', h1, h2⟩ := aNote_43 (to := g (81 + hh)) (x := nI 0) (y := nI 0) hk k8
    refine ⟨k', h1, ?_⟩
    show upd (upd _ _ _) _ _ 43 = _
    rw [upd_ne (by omega), upd_ne (by omega)]
    exact h2
  · exact ⟨k, k8, hk⟩
theorem s_lv43 {hh : Nat} {k : Nat} (hh6 : hh < 6) (hk : g 43 = nI k) (k8 : k ≤ 8) (y : Int32) (hy : ¬ y = 0) (hc : g (75 + hh) = 0 ∨ kd = 6) (K : (Int32 × Int32 × zH) → Option (Int32 × zH)) : g_Rules_leaveTree_43 r a (nI 1) (nI hh) y (zup h a (zI32 123 g)) K = K ((lvS kd g hh).1, nI (hh + 1), zup h a (zI32 123 (lvS kd g hh).2)) := by
  unfold lvS
  by_cases c1 : g (87 + hh) = nI 1
  · by_cases c2 : g hh = 0
    · rw [if_pos ⟨hc.symm, c1, c2⟩]
      simp (disch := omega) only [g_Rules_leaveTree_43, hy, if_false, zaI, zA32_ld, nI_add, bind_some', eq_true c1, if_true, Nat.zero_add, eq_true c2]
      rw [s_note hk k8]
      simp (disch := omega) only [zb2_some, zsI, zS32_st, nI_add, bind_some']
    · rw [if_neg (fun z => c2 z.2.2)]
      simp (disch := omega) only [g_Rules_leaveTree_43, hy, if_false, zaI, zA32_ld, nI_add, bind_some', eq_true c1, if_true, Nat.zero_add, eq_false c2]
  · rw [if_neg (fun z => c1 z.2.1)]
    simp (disch := omega) only [g_Rules_leaveTree_43, hy, if_false, zaI, zA32_ld, nI_add, bind_some', eq_false c1]
theorem s_lv43n {hh : Nat} (hh6 : hh < 6) (hc : ¬ (kd = 6 ∨ g (75 + hh) = 0)) (K : (Int32 × Int32 × zH) → Option (Int32 × zH)) : g_Rules_leaveTree_43 r a (nI 1) (nI hh) (nI 0) (zup h a (zI32 123 g)) K = K ((lvS kd g hh).1, nI (hh + 1), zup h a (zI32 123 (lvS kd g hh).2)) := by
  unfold lvS
  rw [if_neg (fun z => hc z.1)]
  simp only [g_Rules_leaveTree_43, nI0_0, if_true, nI_add]
theorem s_leave_l (hr : h r = ruE kd fm) (hkd : kd < 9) (q : r ≠ a) (ha : 18 ≤ a) (H : HU n nw go h) : ∀ (d hh f : Nat) (g : Nat → Int32) (k : Nat), n - hh = d → hh ≤ n ∨ n ≤ hh → g 43 = nI k → k ≤ 8 → d < f → hh < 7 → zloop (g_Rules_leaveTree_4 r a) f (nI 1, nI hh, zup h a (zI32 123 g)) = some ((lvL kd d hh g).1, zup h a (zI32 123 (lvL kd d hh g).2)) := by
  have hn := hu_n H
  have n11 : (nI 1 = nI 1) = True := by simp
  intro d
  induction d with
  | zero =>
    intro hh f g k hd _ hk k8 hf h7
    obtain ⟨f, rfl⟩ : ∃ k, f = k + 1 := ⟨f - 1, by omega⟩
    show g_Rules_leaveTree_4 r a _ (nI 1, nI hh, zup h a (zI32 123 g)) = _
    have c : (n ≤ hh) = True := eq_true (by omega)
    simp (disch := omega) only [g_Rules_leaveTree_4, rl_huts hr q, hu_zcv H ha, hu_size H ha, bind_some', nI_le_iff, c, if_true, lvL]
  | succ d ih =>
    intro hh f g k hd _ hk k8 hf h7
    obtain ⟨f, rfl⟩ : ∃ k, f = k + 1 := ⟨f - 1, by omega⟩
    show g_Rules_leaveTree_4 r a (zloop (g_Rules_leaveTree_4 r a) f) (nI 1, nI hh, zup h a (zI32 123 g)) = _
    have c : (n ≤ hh) = False := eq_false (by omega)
    have st : g_Rules_leaveTree_4 r a (zloop (g_Rules_leaveTree_4 r a) f) (nI 1, nI hh, zup h a (zI32 123 g)) = zloop (g_Rules_leaveTree_4 r a) f ((lvS kd g hh).1, nI (hh + 1), zup h a (zI32 123 (lvS kd g hh).2)) := by
      by_cases c6 : kd = 6
      · simp (disch := omega) only [g_Rules_leaveTree_4, rl_huts hr q, hu_zcv H ha, hu_size H ha, bind_some', nI_le_iff, c, if_false, n11, if_true, rl_kind hr q, nI_eq_iff, eq_true c6]
        exact s_lv43 (by omega) hk k8 _ (by simp [nI1_0]) (Or.inr c6) _
      · by_cases c0 : g (75 + hh) = 0
        · simp (disch := omega) only [g_Rules_leaveTree_4, rl_huts hr q, hu_zcv H ha, hu_size H ha, bind_some', nI_le_iff, c, if_false, n11, if_true, rl_kind hr q, nI_eq_iff, eq_false c6, zaI, zA32_ld, nI_add, eq_true c0]
          exact s_lv43 (by omega) hk k8 _ (by simp [nI1_0]) (Or.inl c0) _
        · simp (disch := omega) only [g_Rules_leaveTree_4, rl_huts hr q, hu_zcv H ha, hu_size H ha, bind_some', nI_le_iff, c, if_false, n11, if_true, rl_kind hr q, nI_eq_iff, eq_false c6, zaI, zA32_ld, nI_add, eq_false c0]
          exact s_lv43n (by omega) (fun z => z.elim c6 c0) _
    rw [st]
    obtain ⟨k', k8', hk'⟩ := lvS_43 (kd := kd) (g := g) (hh := hh) (by omega) hk k8
    unfold lvL
    by_cases c1 : (lvS kd g hh).1 = nI 1
    · rw [if_pos c1, c1]
      exact ih (hh + 1) f _ k' (by omega) (by omega) hk' k8' (by omega) (by omega)
    · rw [if_neg c1]
      obtain ⟨f, rfl⟩ : ∃ k, f = k + 1 := ⟨f - 1, by omega⟩
      show g_Rules_leaveTree_4 r a _ ((lvS kd g hh).1, nI (hh + 1), zup h a (zI32 123 (lvS kd g hh).2)) = _
      by_cases c2 : n ≤ hh + 1
      · simp (disch := omega) only [g_Rules_leaveTree_4, rl_huts hr q, hu_zcv H ha, hu_size H ha, bind_some', nI_le_iff, eq_true c2, if_true]
      · simp (disch := omega) only [g_Rules_leaveTree_4, rl_huts hr q, hu_zcv H ha, hu_size H ha, bind_some', nI_le_iff, eq_false c2, if_false, eq_false c1]
theorem s_leave (hr : h r = ruE kd fm) (hkd : kd < 9) (q : r ≠ a) (ha : 18 ≤ a) (H : HU n nw go h) (hn0 : 0 < n) {k : Nat} (hk : g 43 = nI k) (k8 : k ≤ 8) : m_Rules_leaveTree r a (zup h a (zI32 123 g)) = some ((aLeave kd n g).1, zup h a (zI32 123 (aLeave kd n g).2)) := by
  have hn := hu_n H
  exact s_leave_l hr hkd q ha H (n - 1) 1 zN g k (by omega) (by omega) hk k8 (by have := zN_big; omega) (by omega)
theorem s_sees (hr : h r = ruE kd fm) (hfm : fm < 6) (q : r ≠ a) : m_Rules_seesAllHome r a (zup h a (zI32 123 g)) = some (if sees fm g then nI 1 else nI 0) := by
  have b0 : ∀ e, zrI (zup h a e) r 3 2 = some (nI fm) := rl_fam hr q
  by_cases c0 : g 0 = nI 1
  · rw [if_neg (fun z => z.1 c0)]
    simp (disch := omega) only [m_Rules_seesAllHome, zaI, zA32_ld, bind_some', eq_true c0, if_true]
  · rcases (show fm = 0 ∨ fm = 1 ∨ fm = 2 ∨ fm = 3 ∨ fm = 4 ∨ fm = 5 by omega) with rfl | rfl | rfl | rfl | rfl | rfl
    · simp (disch := omega) [m_Rules_seesAllHome, g_Rules_seesAllHome_33, g_Rules_seesAllHome_54, zaI, zA32_ld, c0, b0, nI_eq_iff, nI0_0, nI1_0]
    · by_cases c1 : g 68 = g 74
      · simp (disch := omega) [m_Rules_seesAllHome, g_Rules_seesAllHome_33, g_Rules_seesAllHome_54, zaI, zA32_ld, c0, b0, nI_eq_iff, nI0_0, nI1_0, c1]
      · simp (disch := omega) [m_Rules_seesAllHome, g_Rules_seesAllHome_33, g_Rules_seesAllHome_54, zaI, zA32_ld, c0, b0, nI_eq_iff, nI0_0, nI1_0, c1]
    · by_cases c1 : 0 < g 75
      · simp (disch := omega) only [m_Rules_seesAllHome, g_Rules_seesAllHome_33, g_Rules_seesAllHome_54, zaI, zA32_ld, eq_false c0, b0, nI_eq_iff, nI0_0, nI1_0, eq_true c1, bind_some', if_true, if_false, sees]
        simp
      · simp (disch := omega) only [m_Rules_seesAllHome, g_Rules_seesAllHome_33, g_Rules_seesAllHome_54, zaI, zA32_ld, eq_false c0, b0, nI_eq_iff, nI0_0, nI1_0, eq_false c1, bind_some', if_true, if_false, sees]
        simp [nI1_0]
    · simp (disch := omega) [m_Rules_seesAllHome, g_Rules_seesAllHome_33, g_Rules_seesAllHome_54, zaI, zA32_ld, c0, b0, nI_eq_iff, nI0_0, nI1_0]
    · simp (disch := omega) [m_Rules_seesAllHome, g_Rules_seesAllHome_33, g_Rules_seesAllHome_54, zaI, zA32_ld, c0, b0, nI_eq_iff, nI0_0, nI1_0]
    · simp (disch := omega) [m_Rules_seesAllHome, g_Rules_seesAllHome_33, g_Rules_seesAllHome_54, zaI, zA32_ld, c0, b0, nI_eq_iff, nI0_0, nI1_0]
end RY
