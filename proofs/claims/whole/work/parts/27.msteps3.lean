/-! THE MODEL'S STEPS: NOTES, ASKING -/
section MSV
variable {h : zH} {m g : Nat → Int32} {fm n kd : Nat} {fu d1 d2 : Int32} {nw : Nat → Int32 → Nat} {go : Nat → Int32 → Nat → Nat}
theorem SIM_note {g : Nat → Int32} {k : Nat} (hfm : fm < 6) (hn : n ≤ 6) (hk : g 43 = nI k) (k8 : k ≤ 8) (to x y : Int32) (o : Option (Int32 × zH)) (ho : o = (m_Model_sendNote 670 to x y (mg h m fm n kd (nI 0) d1 d2 g)).bind fun h1 => some (nI 1, h1)) : SIM h m fm n kd d1 d2 (aNote g to x y) o := by
  rw [ho, M_note hfm hn hk k8]
  unfold aNote
  rw [cnt_nI hk (by omega)]
  by_cases c : k < 8
  · rw [if_pos c, if_pos c]
    exact Or.inl ⟨rfl, rfl⟩
  · rw [if_neg c, if_neg c]
    exact Or.inr (Or.inl ⟨rfl, upd g 122 (g 122 + nI 1), k, k8, by rw [upd_ne (by omega)]; exact hk, rfl⟩)
theorem M_st33 {y : Int32} (hn : n ≤ 6) : g_Model_stoneAt_33 670 y (mg h m 4 n kd fu d1 d2 g) = some (mg h m 4 n kd fu d1 d2 (if y = 0 then g else upd g 120 (nI 1))) := by
  have p := (pm_c (fm := 4) (n := n)).2.2.2.1
  by_cases z : y = 0
  · have e : upd g 120 (g 120) = g := upd_same
    rw [if_pos z]
    simp only [g_Model_stoneAt_33, M_now, bind_some', eq_true z, if_true, M_ld p, M_st (by omega : 4 < 6) hn p, e]
  · rw [if_neg z]
    simp only [g_Model_stoneAt_33, M_now, bind_some', eq_false z, if_false, M_st (by omega : 4 < 6) hn p]
theorem M_stone {t k : Nat} (hn : n ≤ 6) (hn0 : 0 < n) (ht : t < n) (hk : g 43 = nI k) (k8 : k ≤ 8) (sum bl : Int32) (hb : bl = 0 ∨ bl = nI 1) : SIM h m 4 n kd d1 d2 (aStone g t sum bl) ((m_Model_stoneAt 670 (nI t) sum bl (mg h m 4 n kd (nI 0) d1 d2 g)).bind fun h1 => some (nI 1, h1)) := by
  have hfm : 4 < 6 := by omega
  have t6 : t < 6 := by omega
  have n1 := nI1_0
  have n0 := nI0_0
  have p3 : pm 4 n (6 * t + 3) = some (93 + t) := pm3 t6 (Or.inr (Or.inr (Or.inl rfl)))
  have p4 : pm 4 n (6 * t + 4) = some (99 + t) := pm4 t6 ht (Or.inr (Or.inl rfl))
  unfold aStone
  by_cases z : t = 0
  · subst z
    rw [if_pos rfl]
    refine Or.inl ⟨rfl, ?_⟩
    by_cases c1 : bl = 0
    · by_cases c2 : g 99 = 0
      · by_cases c3 : sum + g 93 = 0
        · rw [if_pos ⟨c1, c2, c3⟩]
          simp only [m_Model_stoneAt, n0, if_true, eq_true c1, M_cv, M_of p4, M_of p3, bind_some', Nat.add_zero, eq_true c2, eq_true c3, M_st33 hn, n1, if_false]
        · rw [if_neg (fun q => c3 q.2.2)]
          simp only [m_Model_stoneAt, n0, if_true, eq_true c1, M_cv, M_of p4, M_of p3, bind_some', Nat.add_zero, eq_true c2, eq_false c3, M_st33 hn, if_false]
      · rw [if_neg (fun q => c2 q.2.1)]
        simp only [m_Model_stoneAt, n0, if_true, eq_true c1, M_cv, M_of p4, bind_some', Nat.add_zero, eq_false c2, M_st33 hn, if_false]
    · rw [if_neg (fun q => c1 q.1)]
      simp only [m_Model_stoneAt, n0, if_true, eq_false c1, M_st33 hn, if_false, bind_some']
  · rw [if_neg z]
    obtain ⟨j, rfl⟩ : ∃ j, t = j + 1 := ⟨t - 1, by omega⟩
    have ej : nI (j + 1) - nI 1 = nI j := by rw [nI_subn (by omega)]; rfl
    have e93 : upd g (99 + (j + 1)) (nI 0) (93 + (j + 1)) = g (93 + (j + 1)) := upd_ne (by omega)
    have hk1 : upd g (99 + (j + 1)) (nI 0) 43 = nI k := by rw [upd_ne (by omega)]; exact hk
    have s74 : ∀ y, g_Model_stoneAt_74 670 (nI (j + 1)) sum y (mg h m 4 n kd (nI 0) d1 d2 g) = m_Model_sendNote 670 (nI j) (sum + g (93 + (j + 1))) y (mg h m 4 n kd (nI 0) d1 d2 (upd g (99 + (j + 1)) (nI 0))) := by
      intro y
      simp only [g_Model_stoneAt_74, M_cv, M_be hfm hn p4, bind_some', M_of p3, e93, ej]
      rcases m_Model_sendNote 670 (nI j) (sum + g (93 + (j + 1))) y (mg h m 4 n kd (nI 0) d1 d2 (upd g (99 + (j + 1)) (nI 0))) with _ | h1
      · rfl
      · rfl
    have z0 : (nI (j + 1) = 0) = False := by rw [nI_eq0 (by omega)]; simp
    refine SIM_note hfm hn hk1 k8 _ _ _ _ ?_
    show _ = (m_Model_sendNote 670 (nI j) (sum + g (93 + (j + 1))) _ _).bind _
    by_cases c : g (99 + (j + 1)) = nI 1
    · rw [if_pos (Or.inr c)]
      simp only [m_Model_stoneAt, z0, if_false, M_cv, M_of p4, bind_some', eq_true c, if_true, s74]
    · rcases hb with b | b
      · rw [if_neg (fun q => q.elim (fun q => by rw [b] at q; exact absurd q (by decide)) c), b, ← nI_0]
        simp only [m_Model_stoneAt, z0, if_false, M_cv, M_of p4, bind_some', eq_false c, s74]
      · rw [if_pos (Or.inl b), b]
        simp only [m_Model_stoneAt, z0, if_false, M_cv, M_of p4, bind_some', eq_false c, s74]
theorem M_su106 {y s c : Int32} (hn : n ≤ 6) : g_Model_sumsAt_106 670 s c y (mg h m 5 n kd fu d1 d2 g) = some (mg h m 5 n kd fu d1 d2 (if y = 0 then upd (upd (upd g 117 (nI 1)) 118 s) 119 c else upd g 120 (nI 1))) := by
  obtain ⟨-, -, -, p87, p88, p89, p90⟩ := pm_c (fm := 5) (n := n)
  have hfm : 5 < 6 := by omega
  by_cases z : y = 0
  · rw [if_pos z]
    simp only [g_Model_sumsAt_106, eq_true z, if_true, M_now, bind_some', M_st hfm hn p88, M_st hfm hn p89, M_st hfm hn p90]
  · rw [if_neg z]
    simp only [g_Model_sumsAt_106, eq_false z, if_false, M_now, bind_some', M_st hfm hn p87]
theorem M_su80 {y s c : Int32} (hkd : kd < 9) (hn : n ≤ 6) (hy : y = nI 0 ∨ y = nI 1) : g_Model_sumsAt_80 670 s c y (mg h m 5 n kd fu d1 d2 g) = some (mg h m 5 n kd fu d1 d2 (if s = c ∧ (kd = 8 ∨ y = nI 1) then upd g 120 (nI 1) else upd (upd (upd g 117 (nI 1)) 118 s) 119 c)) := by
  have n1 := nI1_0
  have n0 := nI0_0
  by_cases a : s = c
  · by_cases b : kd = 8
    · rw [if_pos ⟨a, Or.inl b⟩]
      simp (disch := omega) only [g_Model_sumsAt_80, eq_true a, if_true, M_10, bind_some', nI_eq_iff, eq_true b, M_su106 hn, n1, if_false]
    · rcases hy with z | z
      · rw [if_neg (fun q => q.2.elim b (fun w => by rw [z] at w; exact absurd w (by decide)))]
        simp (disch := omega) only [g_Model_sumsAt_80, eq_true a, if_true, M_10, bind_some', nI_eq_iff, eq_false b, if_false, z, n0, M_su106 hn]
      · rw [if_pos ⟨a, Or.inr z⟩]
        simp (disch := omega) only [g_Model_sumsAt_80, eq_true a, if_true, M_10, bind_some', nI_eq_iff, eq_false b, if_false, z, n1, M_su106 hn]
  · rw [if_neg (fun q => a q.1)]
    simp (disch := omega) only [g_Model_sumsAt_80, eq_false a, if_false, M_su106 hn, n0, if_true]
theorem M_sums {t k : Nat} (hkd : kd < 9) (hn : n ≤ 6) (h4 : m 4 = nI n) (ht : t < n) (hk : g 43 = nI k) (k8 : k ≤ 8) (s c : Int32) : SIM h m 5 n kd d1 d2 (aSums kd n g t s c) ((m_Model_sumsAt 670 (nI t) s c (mg h m 5 n kd (nI 0) d1 d2 g)).bind fun h1 => some (nI 1, h1)) := by
  have hfm : 5 < 6 := by omega
  have t6 : t < 6 := by omega
  obtain ⟨-, -, -, p87, p88, p89, p90⟩ := pm_c (fm := 5) (n := n)
  have p3 : pm 5 n (6 * t + 3) = some (105 + t) := pm3 t6 (Or.inr (Or.inr (Or.inr rfl)))
  have p4 : pm 5 n (6 * t + 4) = some (111 + t) := pm4 t6 ht (Or.inr (Or.inr rfl))
  unfold aSums
  by_cases z : t = 0
  · have z0 : (nI t ≤ 0) = True := by rw [nI_le0 (by omega)]; exact eq_true z
    rw [if_pos z]
    refine Or.inl ⟨rfl, ?_⟩
    by_cases c1 : g 117 = nI 1
    · by_cases c2 : g 118 = s
      · by_cases c3 : g 119 = c
        · have e : ((s = c ∧ (kd = 8 ∨ g 117 = nI 1 ∧ g 118 = s ∧ g 119 = c)) = (s = c ∧ (kd = 8 ∨ nI 1 = nI 1))) := propext ⟨fun q => ⟨q.1, Or.inr rfl⟩, fun q => ⟨q.1, Or.inr ⟨c1, c2, c3⟩⟩⟩
          simp only [m_Model_sumsAt, z0, if_true, M_now, bind_some', M_ld p88, eq_true c1, M_ld p89, eq_true c2, M_ld p90, eq_true c3, M_su80 hkd hn (Or.inr rfl), and_true, or_true]
        · have e : (s = c ∧ (kd = 8 ∨ g 117 = nI 1 ∧ g 118 = s ∧ g 119 = c)) = (s = c ∧ (kd = 8 ∨ nI 0 = nI 1)) := propext ⟨fun q => ⟨q.1, q.2.elim Or.inl (fun w => absurd w.2.2 c3)⟩, fun q => ⟨q.1, q.2.elim Or.inl (fun w => absurd w (by decide))⟩⟩
          simp only [e]
          simp only [m_Model_sumsAt, z0, if_true, M_now, bind_some', M_ld p88, eq_true c1, M_ld p89, eq_true c2, M_ld p90, eq_false c3, if_false, M_su80 hkd hn (Or.inl rfl)]
      · have e : (s = c ∧ (kd = 8 ∨ g 117 = nI 1 ∧ g 118 = s ∧ g 119 = c)) = (s = c ∧ (kd = 8 ∨ nI 0 = nI 1)) := propext ⟨fun q => ⟨q.1, q.2.elim Or.inl (fun w => absurd w.2.1 c2)⟩, fun q => ⟨q.1, q.2.elim Or.inl (fun w => absurd w (by decide))⟩⟩
        simp only [e]
        simp only [m_Model_sumsAt, z0, if_true, M_now, bind_some', M_ld p88, eq_true c1, M_ld p89, eq_false c2, if_false, M_su80 hkd hn (Or.inl rfl)]
    · have e : (s = c ∧ (kd = 8 ∨ g 117 = nI 1 ∧ g 118 = s ∧ g 119 = c)) = (s = c ∧ (kd = 8 ∨ nI 0 = nI 1)) := propext ⟨fun q => ⟨q.1, q.2.elim Or.inl (fun w => absurd w.1 c1)⟩, fun q => ⟨q.1, q.2.elim Or.inl (fun w => absurd w (by decide))⟩⟩
      simp only [e]
      simp only [m_Model_sumsAt, z0, if_true, M_now, bind_some', M_ld p88, eq_false c1, if_false, M_su80 hkd hn (Or.inl rfl)]
  · have z0 : (nI t ≤ 0) = False := by rw [nI_le0 (by omega)]; exact eq_false z
    rw [if_neg z]
    refine SIM_note hfm hn hk k8 _ _ _ _ ?_
    have s22 : ∀ y, g_Model_sumsAt_22 670 (nI t) s c 670 y (mg h m 5 n kd (nI 0) d1 d2 g) = m_Model_sendNote 670 y (s + g (105 + t)) (c + g (111 + t)) (mg h m 5 n kd (nI 0) d1 d2 g) := by
      intro y
      simp only [g_Model_sumsAt_22, M_cv, M_of p3, M_of p4, bind_some']
      rcases m_Model_sendNote 670 y (s + g (105 + t)) (c + g (111 + t)) (mg h m 5 n kd (nI 0) d1 d2 g) with _ | h1
      · rfl
      · rfl
    by_cases c1 : n ≤ t + 1
    · rw [if_pos c1]
      simp (disch := omega) only [m_Model_sumsAt, z0, if_false, M_4 h4, bind_some', nI_add, nI_le_iff, eq_true c1, if_true, s22]
    · rw [if_neg c1]
      simp (disch := omega) only [m_Model_sumsAt, z0, if_false, M_4 h4, bind_some', nI_add, nI_le_iff, eq_false c1, s22]
theorem M_cn74 {i t k : Nat} (hkd : kd < 9) (hf : fm = fmo kd) (hn : n ≤ 6) (hn0 : 0 < n) (h4 : m 4 = nI n) (ht : t < n) (hk : g 43 = nI k) (k8 : k ≤ 8) (hi : i < k) (hz : ∀ i, k ≤ i → i < 8 → g (44 + i) = 0 ∧ g (52 + i) = 0 ∧ g (60 + i) = 0) (x y : Int32) (hy : fm = 4 → y = 0 ∨ y = nI 1) : SIM h m fm n kd d1 d2 (aCN2 fm kd n (takeN g i) t x y) (g_Model_noteComes_74 670 (nI i) (nI t) x y (mg h m fm n kd (nI 0) d1 d2 g)) := by
  have hfm : fm < 6 := by rw [hf]; exact fmo_lt kd
  have k1 := M_k1 hkd hf
  have u2 := M_u2 hkd hf
  have u4 := M_u4 hkd hf
  have u5 := M_u5 hkd hf
  have n1 := nI1_0
  have n0 := nI0_0
  have t6 : t < 6 := by omega
  have hk1 : takeN g i 43 = nI (k - 1) := by rw [tN_43, hk, nI_subn (by omega)]
  unfold aCN2
  by_cases f1 : fm = 1
  · subst f1
    have p3 : pm 1 n (6 * t + 3) = some (68 + t) := pm3 t6 (Or.inl rfl)
    rw [if_pos rfl]
    refine Or.inl ⟨rfl, ?_⟩
    simp only [g_Model_noteComes_74, M_cv, M_takeN hfm hn hk k8 hi hz, bind_some', M_10, k1, if_true, M_add hfm hn p3]
  · rw [if_neg f1]
    by_cases f2 : fm = 2
    · subst f2
      have p3 : pm 2 n (6 * t + 3) = some (75 + t) := pm3 t6 (Or.inr (Or.inl rfl))
      rw [if_pos rfl]
      refine Or.inl ⟨rfl, ?_⟩
      simp only [g_Model_noteComes_74, M_cv, M_takeN hfm hn hk k8 hi hz, bind_some', M_10, k1, f1, if_false, u2, if_true, n1, M_add hfm hn p3, sub_1]
    · rw [if_neg f2]
      by_cases f4 : fm = 4
      · subst f4
        rw [if_pos rfl]
        have := M_stone (h := h) (m := m) (kd := kd) (d1 := d1) (d2 := d2) hn hn0 ht hk1 (by omega) x y (hy rfl)
        simp only [g_Model_noteComes_74, M_cv, M_takeN hfm hn hk k8 hi hz, bind_some', M_10, k1, f1, f2, if_false, u2, if_true, n0, n1, u4]
        exact this
      · rw [if_neg f4]
        by_cases f5 : fm = 5
        · subst f5
          rw [if_pos rfl]
          have := M_sums (h := h) (m := m) (d1 := d1) (d2 := d2) hkd hn h4 ht hk1 (by omega) x y
          simp only [g_Model_noteComes_74, M_cv, M_takeN hfm hn hk k8 hi hz, bind_some', M_10, k1, f1, f2, f4, if_false, u2, if_true, n0, n1, u4, u5]
          exact this
        · rw [if_neg f5]
          refine Or.inl ⟨rfl, ?_⟩
          simp only [g_Model_noteComes_74, M_cv, M_takeN hfm hn hk k8 hi hz, bind_some', M_10, k1, f1, f2, f4, f5, if_false, u2, if_true, n0, u4, u5]
theorem M_cn {i k : Nat} (hkd : kd < 9) (hf : fm = fmo kd) (hn : n ≤ 6) (hn0 : 0 < n) (h4 : m 4 = nI n) (hk : g 43 = nI k) (k8 : k ≤ 8) (hi : i < k) (ht : ∃ t, t < n ∧ g (44 + i) = nI t) (hz : ∀ i, k ≤ i → i < 8 → g (44 + i) = 0 ∧ g (52 + i) = 0 ∧ g (60 + i) = 0) (hy : fm = 4 → g (60 + i) = 0 ∨ g (60 + i) = nI 1) : SIM h m fm n kd d1 d2 (aCN fm kd n g i) (m_Model_noteComes 670 (nI i) (mg h m fm n kd (nI 0) d1 d2 g)) := by
  have hfm : fm < 6 := by rw [hf]; exact fmo_lt kd
  obtain ⟨t, tn, et⟩ := ht
  have u4 := M_u4 hkd hf
  have n1 := nI1_0
  have n0 := nI0_0
  have p0 : pm fm n (6 * t + 0) = some t := pm0 (by omega)
  have ci : (i < k) = True := eq_true hi
  have s74 := M_cn74 (h := h) (m := m) (d1 := d1) (d2 := d2) hkd hf hn hn0 h4 tn hk k8 hi hz (g (52 + i)) (g (60 + i)) hy
  unfold aCN
  rw [cnt_nI et (by omega)]
  by_cases f4 : fm = 4
  · by_cases z : g t = nI 1
    · rw [if_pos ⟨f4, z⟩]
      refine Or.inr (Or.inr ⟨rfl, g, ?_⟩)
      simp (disch := omega) only [m_Model_noteComes, nI_lt0, if_false, M_cv, M_notes, bind_some', hk, nI_lt_iff, ci, if_true, M_now, pk_mul, nI_add, M_ld (pmN0 (by omega : i < 8)), M_ld (pmN1 (by omega : i < 8)), M_ld (pmN2 (by omega : i < 8)), et, M_10, u4, eq_true f4, n1, M_of p0, eq_true z]
    · rw [if_neg (fun q => z q.2)]
      simp (disch := omega) only [m_Model_noteComes, nI_lt0, if_false, M_cv, M_notes, bind_some', hk, nI_lt_iff, ci, if_true, M_now, pk_mul, nI_add, M_ld (pmN0 (by omega : i < 8)), M_ld (pmN1 (by omega : i < 8)), M_ld (pmN2 (by omega : i < 8)), et, M_10, u4, eq_true f4, n1, M_of p0, eq_false z]
      exact s74
  · rw [if_neg (fun q => f4 q.1)]
    simp (disch := omega) only [m_Model_noteComes, nI_lt0, if_false, M_cv, M_notes, bind_some', hk, nI_lt_iff, ci, if_true, M_now, pk_mul, nI_add, M_ld (pmN0 (by omega : i < 8)), M_ld (pmN1 (by omega : i < 8)), M_ld (pmN2 (by omega : i < 8)), et, M_10, u4, eq_false f4, n0]
    exact s74
theorem M_cn_no {x : Int32} {w : Nat} (hw : g 43 = nI w) (w8 : w ≤ 8) (hx : ix x w = none) : m_Model_noteComes 670 x (mg h m fm n kd fu d1 d2 g) = some (nI 0, mg h m fm n kd fu d1 d2 g) := by
  by_cases c : x < 0
  · simp only [m_Model_noteComes, eq_true c, if_true]
  · have c2 : ¬ x < nI w := by
      rcases ix_cases x w (by omega) with ⟨-, q | q⟩ | ⟨j, -, -, e⟩
      · exact absurd q c
      · exact Int32.not_lt.mpr q
      · rw [e] at hx; cases hx
    simp only [m_Model_noteComes, eq_false c, if_false, M_cv, M_notes, bind_some', hw, eq_false c2]
theorem M_ask {k : Nat} (hkd : kd < 9) (hf : fm = fmo kd) (hn : n ≤ 6) (hn0 : 0 < n) (h4 : m 4 = nI n) (hk : g 43 = nI k) (k8 : k ≤ 8) : SIM h m fm n kd d1 d2 (aAsk fm n g) (m_Model_asks 670 (nI 0) (mg h m fm n kd (nI 0) d1 d2 g)) := by
  have hfm : fm < 6 := by rw [hf]; exact fmo_lt kd
  have u3 := M_u3 hkd hf
  have u4 := M_u4 hkd hf
  have u5 := M_u5 hkd hf
  have n1 := nI1_0
  have n0 := nI0_0
  have p0 : pm fm n (6 * 0 + 0) = some 0 := pm0 (by omega)
  unfold aAsk
  by_cases c1 : fm = 3 ∨ fm = 4 ∨ fm = 5
  · have u3' : ∀ h, m_Model_isUnder (nI kd) (nI 3) h = some (nI 1) := fun h => by rw [u3 h, if_pos c1]
    by_cases c2 : 0 < g 43
    · rw [if_neg (fun q => q.2.1 c2)]
      refine Or.inr (Or.inr ⟨rfl, g, ?_⟩)
      simp only [m_Model_asks, n0, if_true, M_10, bind_some', u3', n1, if_false, M_cv, M_notes, eq_true c2]
    · by_cases c3 : g 0 = nI 1
      · rw [if_neg (fun q => q.2.2 c3)]
        refine Or.inr (Or.inr ⟨rfl, g, ?_⟩)
        simp only [m_Model_asks, n0, if_true, M_10, bind_some', u3', n1, if_false, M_cv, M_notes, eq_false c2, M_of p0, eq_true c3]
      · rw [if_pos ⟨c1, c2, c3⟩]
        by_cases f4 : fm = 4
        · rw [if_pos f4]
          subst f4
          have p4 : pm 4 n (6 * 0 + 4) = some 99 := pm4 (by omega) hn0 (Or.inr (Or.inl rfl))
          have f5 : ((4 : Nat) = 5) = False := by simp
          refine SIM_note hfm hn (k := k) (by rw [upd_ne (by omega)]; exact hk) k8 _ _ _ _ ?_
          have e := nI_subn (a := n) (b := 1) hn0
          simp only [m_Model_asks, n0, if_true, M_10, bind_some', u3', n1, if_false, M_cv, M_notes, eq_false c2, M_of p0, eq_false c3, u5, f5, u4, M_be hfm hn p4, M_4 h4, e]
        · rw [if_neg f4]
          by_cases f5 : fm = 5
          · rw [if_pos f5]
            subst f5
            have p3 : pm 5 n (6 * 0 + 3) = some 105 := pm3 (by omega) (Or.inr (Or.inr (Or.inr rfl)))
            have p4 : pm 5 n (6 * 0 + 4) = some 111 := pm4 (by omega) hn0 (Or.inr (Or.inr rfl))
            refine SIM_note hfm hn hk k8 _ _ _ _ ?_
            by_cases q : n ≤ 1
            · rw [if_pos q]
              simp (disch := omega) only [m_Model_asks, n0, if_true, M_10, bind_some', u3', n1, if_false, M_cv, M_notes, eq_false c2, M_of p0, eq_false c3, u5, M_4 h4, nI_le_iff, eq_true q, g_Model_asks_59, M_of p3, M_of p4]
            · rw [if_neg q]
              simp (disch := omega) only [m_Model_asks, n0, if_true, M_10, bind_some', u3', n1, if_false, M_cv, M_notes, eq_false c2, M_of p0, eq_false c3, u5, M_4 h4, nI_le_iff, eq_false q, g_Model_asks_59, M_of p3, M_of p4]
          · rw [if_neg f5]
            refine Or.inl ⟨rfl, ?_⟩
            simp only [m_Model_asks, n0, if_true, M_10, bind_some', u3', n1, if_false, M_cv, M_notes, eq_false c2, M_of p0, eq_false c3, u5, f5, u4, f4]
  · rw [if_neg (fun q => c1 q.1)]
    refine Or.inr (Or.inr ⟨rfl, g, ?_⟩)
    simp only [m_Model_asks, n0, if_true, M_10, bind_some', u3, eq_false c1, if_false]
theorem M_ask_no {x : Int32} (hx : ¬ x = 0) : m_Model_asks 670 x (mg h m fm n kd fu d1 d2 g) = some (nI 0, mg h m fm n kd fu d1 d2 g) := by
  simp only [m_Model_asks, eq_false hx, if_false]
end MSV
