/-! NOTES, ASKING, LEAVING, A WHOLE STEP, THE BEGINNING -/
section RX
variable {h : zH} {a r : Nat} {g : Nat → Int32} {kd fm n : Nat} {nw : Nat → Int32 → Nat} {go : Nat → Int32 → Nat → Nat}
theorem s_sums109 (s c : Int32) : g_Rules_takeSums_109 a s c (zup h a (zI32 123 g)) = some (nI 1, zup h a (zI32 123 (upd (upd (upd g 117 (nI 1)) 118 s) 119 c))) := by
  simp (disch := omega) only [g_Rules_takeSums_109, zsI, zS32_st, bind_some']
theorem s_sums80 (hr : h r = ruE kd fm) (hkd : kd < 9) (q : r ≠ a) (s c y : Int32) (hy : y = 0 ∨ y = nI 1) : g_Rules_takeSums_80 r a s c y (zup h a (zI32 123 g)) = some (nI 1, zup h a (zI32 123 (if s = c ∧ (kd = 8 ∨ y = nI 1) then upd g 120 (nI 1) else upd (upd (upd g 117 (nI 1)) 118 s) 119 c))) := by
  by_cases c1 : s = c
  · by_cases c2 : kd = 8
    · simp (disch := omega) [g_Rules_takeSums_80, c1, rl_kind hr q, nI_eq_iff, c2, zsI, zS32_st]
    · rcases hy with rfl | rfl
      · have e : ((0 : Int32) = nI 1) = False := eq_false (by decide)
        simp (disch := omega) [g_Rules_takeSums_80, c1, rl_kind hr q, nI_eq_iff, c2, s_sums109, e]
      · simp (disch := omega) [g_Rules_takeSums_80, c1, rl_kind hr q, nI_eq_iff, c2, zsI, zS32_st, nI1_0]
  · simp [g_Rules_takeSums_80, c1, s_sums109]
theorem s_sums (hr : h r = ruE kd fm) (hkd : kd < 9) (q : r ≠ a) (ha : 18 ≤ a) (H : HU n nw go h) {hh k : Nat} (hh6 : hh < 6) (hk : g 43 = nI k) (k8 : k ≤ 8) (s c : Int32) : m_Rules_takeSums r a (nI hh) s c (zup h a (zI32 123 g)) = some ((aSums kd n g hh s c).1, zup h a (zI32 123 (aSums kd n g hh s c).2)) := by
  have hn := hu_n H
  unfold aSums
  by_cases h0 : hh = 0
  · have h0' : (hh = 0) = True := eq_true h0
    have fin : ∀ y : Int32, (y = 0 ∨ y = nI 1) → ((y = nI 1) ↔ (g 117 = nI 1 ∧ g 118 = s ∧ g 119 = c)) → g_Rules_takeSums_80 r a s c y (zup h a (zI32 123 g)) = some (nI 1, zup h a (zI32 123 (if s = c ∧ (kd = 8 ∨ (g 117 = nI 1 ∧ g 118 = s ∧ g 119 = c)) then upd g 120 (nI 1) else upd (upd (upd g 117 (nI 1)) 118 s) 119 c))) := by
      intro y hy e
      rw [s_sums80 hr hkd q s c y hy]
      simp only [e]
    have n01 : ¬ (nI 0 = nI 1) := by decide
    rw [if_pos h0]
    by_cases c1 : g 117 = nI 1
    · by_cases c2 : g 118 = s
      · by_cases c3 : g 119 = c
        · have := fin (nI 1) (Or.inr rfl) ⟨fun _ => ⟨c1, c2, c3⟩, fun _ => rfl⟩
          simp (disch := omega) only [m_Rules_takeSums, nI_eq0, h0', if_true, zaI, zA32_ld, bind_some', eq_true c1, eq_true c2, eq_true c3]
          simpa only [eq_true c1, eq_true c2, eq_true c3] using this
        · have := fin (nI 0) (Or.inl nI_0) ⟨fun q => absurd q n01, fun q => absurd q.2.2 c3⟩
          simp (disch := omega) only [m_Rules_takeSums, nI_eq0, h0', if_true, zaI, zA32_ld, bind_some', eq_true c1, eq_true c2, eq_false c3, if_false]
          simpa only [eq_true c1, eq_true c2, eq_false c3] using this
      · have := fin (nI 0) (Or.inl nI_0) ⟨fun q => absurd q n01, fun q => absurd q.2.1 c2⟩
        simp (disch := omega) only [m_Rules_takeSums, nI_eq0, h0', if_true, zaI, zA32_ld, bind_some', eq_true c1, eq_false c2, if_false]
        simpa only [eq_true c1, eq_false c2] using this
    · have := fin (nI 0) (Or.inl nI_0) ⟨fun q => absurd q n01, fun q => absurd q.1 c1⟩
      simp (disch := omega) only [m_Rules_takeSums, nI_eq0, h0', if_true, zaI, zA32_ld, bind_some', eq_false c1, if_false]
      simpa only [eq_false c1] using this
  · have h0' : (hh = 0) = False := eq_false h0
    rw [if_neg h0]
    have key : ∀ y, g_Rules_takeSums_24 a (nI hh) s c y (zup h a (zI32 123 g)) = some ((aNote g y (s + g (105 + hh)) (c + g (111 + hh))).1, zup h a (zI32 123 (aNote g y (s + g (105 + hh)) (c + g (111 + hh))).2)) := by
      intro y
      simp (disch := omega) only [g_Rules_takeSums_24, zaI, zA32_ld, nI_add, bind_some']
      rw [s_note hk k8]
      rfl
    by_cases c1 : n ≤ hh + 1
    · have c1' : (n ≤ hh + 1) = True := eq_true c1
      simp (disch := omega) only [m_Rules_takeSums, nI_eq0, h0', if_false, rl_huts hr q, hu_zcv H ha, hu_size H ha, bind_some', nI_add, nI_le_iff, c1', if_true, key]
    · have c1' : (n ≤ hh + 1) = False := eq_false c1
      simp (disch := omega) only [m_Rules_takeSums, nI_eq0, h0', if_false, rl_huts hr q, hu_zcv H ha, hu_size H ha, bind_some', nI_add, nI_le_iff, c1', key]
theorem tN_lo (i : Nat) {k : Nat} (hk : k < 43) : takeN g i k = g k := by
  unfold takeN cg upd
  repeat' split
  all_goals first | omega | rfl
theorem tN_hi (i : Nat) {k : Nat} (hk : 68 ≤ k) : takeN g i k = g k := by
  unfold takeN cg upd
  repeat' split
  all_goals first | omega | rfl
theorem tN_43 (i : Nat) : takeN g i 43 = g 43 - nI 1 := by
  unfold takeN cg upd
  repeat' split
  all_goals first | omega | rfl
theorem s_cn2 (hr : h r = ruE kd fm) (hkd : kd < 9) (hfm : fm < 6) (q : r ≠ a) (ha : 18 ≤ a) (H : HU n nw go h) {to k i : Nat} (hto : to < 6) (hi : i < 8) (hk : g 43 = nI (k + 1)) (k8 : k < 8) (x y : Int32) : g_Rules_comeNote_67 r a (nI i) (nI to) x y (zup h a (zI32 123 g)) = some ((aCN2 fm kd n (takeN g i) to x y).1, zup h a (zI32 123 (aCN2 fm kd n (takeN g i) to x y).2)) := by
  have b0 : ∀ e, zrI (zup h a e) r 3 2 = some (nI fm) := rl_fam hr q
  have k43 : takeN g i 43 = nI k := by
    rw [tN_43, hk, nI_subn (by omega)]
    rfl
  have st : g_Rules_comeNote_67 r a (nI i) (nI to) x y (zup h a (zI32 123 g)) = (if nI fm = nI 1 then ((zaI (zup h a (zI32 123 (takeN g i))) a ((nI 68) + nI to)).bind fun v130 => ((zsI (zup h a (zI32 123 (takeN g i))) a ((nI 68) + nI to) (v130 + x)).bind fun h134 => (some ((nI 1), h134)))) else (if nI fm = nI 2 then ((zaI (zup h a (zI32 123 (takeN g i))) a ((nI 75) + nI to)).bind fun v143 => ((zsI (zup h a (zI32 123 (takeN g i))) a ((nI 75) + nI to) (v143 - (nI 1))).bind fun h146 => (some ((nI 1), h146)))) else (if nI fm = nI 3 then (some ((nI 1), zup h a (zI32 123 (takeN g i)))) else (if nI fm = nI 4 then (zb2 (m_Rules_takeStone a (nI to) x y (zup h a (zI32 123 (takeN g i)))) fun v155 h155 => (some (v155, h155))) else (if nI fm = nI 5 then (zb2 (zcv (zup h a (zI32 123 (takeN g i))) r 3 (m_Rules_takeSums r a (nI to) x y (zup h a (zI32 123 (takeN g i))))) fun v166 h166 => (some (v166, h166))) else (some ((nI 1), zup h a (zI32 123 (takeN g i))))))))) := by
    simp (disch := omega) only [g_Rules_comeNote_67, zaI, zA32_ld, zsI, zS32_st, bind_some', s_closeGap, b0]
    rfl
  rw [st]
  unfold aCN2
  rcases (show fm = 0 ∨ fm = 1 ∨ fm = 2 ∨ fm = 3 ∨ fm = 4 ∨ fm = 5 by omega) with rfl | rfl | rfl | rfl | rfl | rfl
  all_goals simp (disch := omega) only [nI_eq_iff]
  · simp
  · simp (disch := omega) [zaI, zA32_ld, zsI, zS32_st, nI_add]
  · simp (disch := omega) [zaI, zA32_ld, zsI, zS32_st, nI_add]
  · simp
  · simp [s_stone hto k43 (by omega), zb2_some]
  · simp [rl_zcv hr q, s_sums hr hkd q ha H hto k43 (by omega), zb2_some]
theorem s_cn (hr : h r = ruE kd fm) (hkd : kd < 9) (hfm : fm < 6) (q : r ≠ a) (ha : 18 ≤ a) (H : HU n nw go h) (ok : okG n g) {i k : Nat} (hk : g 43 = nI k) (k8 : k ≤ 8) (hi : i < k) : m_Rules_comeNote r a (nI i) (zup h a (zI32 123 g)) = some ((aCN fm kd n g i).1, zup h a (zI32 123 (aCN fm kd n g i).2)) := by
  have hn := hu_n H
  obtain ⟨w', k', w8', k8', hw', hk', -, hkd', -⟩ := ok
  have ek : k' = k := (nI_eq (by omega) (by omega)).mp (hk'.symm.trans hk)
  subst ek
  obtain ⟨t, ht, et⟩ := hkd' i hi
  have ec : cnt g (44 + i) = t := cnt_nI et (by omega)
  have y := s_way (h := h) (a := a) (c := 43) (by omega) hk k8 hi
  obtain ⟨k1, rfl⟩ : ∃ k1, k' = k1 + 1 := ⟨k' - 1, by omega⟩
  have key := s_cn2 hr hkd hfm q ha H (to := t) (i := i) (by omega) (by omega) hk (by omega) (g (52 + i)) (g (60 + i))
  unfold aCN
  rw [ec]
  by_cases c : fm = 4
  · by_cases c2 : g t = nI 1
    · rw [if_pos ⟨c, c2⟩]
      simp (disch := omega) only [m_Rules_comeNote, y, nI1_0, if_false, zaI, zA32_ld, bind_some', if_true, nI_add, et, rl_huts hr q, hu_zcv H ha, hu_has H ha, ht, rl_fam hr q, nI_eq_iff, eq_true c, Nat.zero_add, eq_true c2]
    · rw [if_neg (fun z => c2 z.2), ← key]
      simp (disch := omega) only [m_Rules_comeNote, y, nI1_0, if_false, zaI, zA32_ld, bind_some', if_true, nI_add, et, rl_huts hr q, hu_zcv H ha, hu_has H ha, ht, rl_fam hr q, nI_eq_iff, eq_true c, Nat.zero_add, eq_false c2]
  · rw [if_neg (fun z => c z.1), ← key]
    simp (disch := omega) only [m_Rules_comeNote, y, nI1_0, if_false, zaI, zA32_ld, bind_some', if_true, nI_add, et, rl_huts hr q, hu_zcv H ha, hu_has H ha, ht, rl_fam hr q, nI_eq_iff, eq_false c, Nat.zero_add]
theorem s_cn_no {w : Nat} (hw : g 43 = nI w) (w8 : w ≤ 8) {x : Int32} (hx : ix x w = none) : m_Rules_comeNote r a x (zup h a (zI32 123 g)) = some (-5, zup h a (zI32 123 g)) := by
  have y := s_way_no (h := h) (a := a) (c := 43) (by omega) hw w8 hx
  simp only [m_Rules_comeNote, y, bind_some', nI0_0, if_true]
theorem s_lose {w i : Nat} (hw : g 18 = nI w) (w8 : w ≤ 8) (hi : i < w) : m_Rules_lose a (nI i) (zup h a (zI32 123 g)) = some (nI 1, zup h a (zI32 123 (takeW g i))) := by
  have y := s_way (h := h) (a := a) (c := 18) (by omega) hw w8 hi
  simp (disch := omega) only [m_Rules_lose, y, nI1_0, if_false, bind_some', s_takeW]
theorem s_lose_no {w : Nat} (hw : g 18 = nI w) (w8 : w ≤ 8) {x : Int32} (hx : ix x w = none) : m_Rules_lose a x (zup h a (zI32 123 g)) = some (-5, zup h a (zI32 123 g)) := by
  have y := s_way_no (h := h) (a := a) (c := 18) (by omega) hw w8 hx
  simp only [m_Rules_lose, y, bind_some', nI0_0, if_true]
end RX
