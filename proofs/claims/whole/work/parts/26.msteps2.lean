/-! THE MODEL'S STEPS: GOING ON, COMING -/
def SIM (h : zH) (m : Nat → Int32) (fm n kd : Nat) (d1 d2 : Int32) (p : cA) (o : Option (Int32 × zH)) : Prop :=
  (p.1 = nI 1 ∧ o = some (nI 1, mg h m fm n kd (nI 0) d1 d2 p.2)) ∨ (p.1 = -3 ∧ ∃ g k, k ≤ 8 ∧ g 43 = nI k ∧ o = some (nI 1, mg h m fm n kd (nI 1) d1 d2 g)) ∨ (p.1 = -5 ∧ ∃ g, o = some (nI 0, mg h m fm n kd (nI 0) d1 d2 g))
theorem nI0_i : nI 0 = (0 : Int32) := nI_0
theorem sub_1 (x : Int32) : x + (-1) = x - nI 1 := by
  rw [Int32.sub_eq_add_neg]
  rfl
theorem upd_same {f : Nat → Int32} {k : Nat} : upd f k (f k) = f := by
  funext j
  unfold upd
  by_cases e : j = k
  · rw [if_pos e, e]
  · rw [if_neg e]
theorem upd_upd {f : Nat → Int32} {k : Nat} {x y : Int32} : upd (upd f k x) k y = upd f k y := by
  funext j
  unfold upd
  by_cases e : j = k
  · rw [if_pos e, if_pos e]
  · rw [if_neg e, if_neg e, if_neg e]
theorem pN_upd {g : Nat → Int32} {k j : Nat} {to x y v : Int32} (k8 : k < 8) (hj : j < 43 ∨ 68 ≤ j) (h2 : j ≠ 122) : upd (pushN g k to x y) j v = pushN (upd g j v) k to x y := by
  unfold pushN
  have e : upd g j v 122 = g 122 := upd_ne (by omega)
  rw [e, upd_comm (a := 122) (by omega), upd_comm (a := 43) (by omega), upd_comm (a := 60 + k) (by omega), upd_comm (a := 52 + k) (by omega), upd_comm (a := 44 + k) (by omega)]
theorem pmW0 {fm n i : Nat} (q : i < 8) : pm fm n (37 + 3 * i) = some (19 + i) := pmW (t := 0) q (by omega)
theorem pmW1 {fm n i : Nat} (q : i < 8) : pm fm n (38 + 3 * i) = some (27 + i) := by
  rw [show 38 + 3 * i = 37 + 3 * i + 1 by omega, pmW (t := 1) q (by omega), show 19 + 8 * 1 + i = 27 + i by omega]
theorem pmW2 {fm n i : Nat} (q : i < 8) : pm fm n (39 + 3 * i) = some (35 + i) := by
  rw [show 39 + 3 * i = 37 + 3 * i + 2 by omega, pmW (t := 2) q (by omega), show 19 + 8 * 2 + i = 35 + i by omega]
theorem pmN0 {fm n i : Nat} (q : i < 8) : pm fm n (62 + 3 * i) = some (44 + i) := pmN (t := 0) q (by omega)
theorem pmN1 {fm n i : Nat} (q : i < 8) : pm fm n (63 + 3 * i) = some (52 + i) := by
  rw [show 63 + 3 * i = 62 + 3 * i + 1 by omega, pmN (t := 1) q (by omega), show 44 + 8 * 1 + i = 52 + i by omega]
theorem pmN2 {fm n i : Nat} (q : i < 8) : pm fm n (64 + 3 * i) = some (60 + i) := by
  rw [show 64 + 3 * i = 62 + 3 * i + 2 by omega, pmN (t := 2) q (by omega), show 44 + 8 * 2 + i = 60 + i by omega]
section MSU
variable {h : zH} {m g : Nat → Int32} {fm n kd : Nat} {fu d1 d2 : Int32} {nw : Nat → Int32 → Nat} {go : Nat → Int32 → Nat → Nat}
def aSleep (fm : Nat) (g : Nat → Int32) (hh : Nat) : cA :=
  if fm = 1 then (if hh = 0 then (nI 1, upd g hh (nI 0)) else if g (68 + hh) = 0 then (nI 1, upd g hh (nI 0)) else aNote (upd (upd g hh (nI 0)) (68 + hh) (nI 0)) (nI 0) (g (68 + hh)) (nI 0))
    else (nI 1, upd g hh (nI 0))
theorem M_sleep {hh k : Nat} (hkd : kd < 9) (hf : fm = fmo kd) (hn : n ≤ 6) (q : hh < 6) (hk : g 43 = nI k) (k8 : k ≤ 8) (hU : fm = 1 → ((g (68 + hh) ≤ 0) = (g (68 + hh) = 0))) : SIM h m fm n kd d1 d2 (aSleep fm g hh) (g_Model_goOn_57 670 (nI hh) (-1) (mg h m fm n kd (nI 0) d1 d2 g)) := by
  have hfm : fm < 6 := by rw [hf]; exact fmo_lt kd
  have k1 := M_k1 hkd hf
  have m1 : ((-1 : Int32) < 0) = True := eq_true (by decide)
  have p0 : pm fm n (6 * hh + 0) = some hh := pm0 q
  unfold aSleep
  by_cases f1 : fm = 1
  · subst f1
    rw [if_pos rfl]
    have p3 : pm 1 n (6 * hh + 3) = some (68 + hh) := pm3 q (Or.inl rfl)
    have eU : upd g hh (nI 0) (68 + hh) = g (68 + hh) := upd_ne (by omega)
    by_cases z : hh = 0
    · rw [if_pos z]
      refine Or.inl ⟨rfl, ?_⟩
      simp (disch := omega) only [g_Model_goOn_57, m1, if_true, M_cv, M_be hfm hn p0, bind_some', M_10, k1, nI_le0, eq_true z]
    · rw [if_neg z]
      by_cases z2 : g (68 + hh) = 0
      · rw [if_pos z2]
        refine Or.inl ⟨rfl, ?_⟩
        simp (disch := omega) only [g_Model_goOn_57, m1, if_true, M_cv, M_be hfm hn p0, bind_some', M_10, k1, nI_le0, eq_false z, if_false, M_of p3, eU, hU rfl, eq_true z2]
      · rw [if_neg z2]
        have hk1 : upd g hh (nI 0) 43 = nI k := by rw [upd_ne (by omega)]; exact hk
        have c43 : cnt (upd (upd g hh (nI 0)) (68 + hh) (nI 0)) 43 = k := cnt_nI (by rw [upd_ne (by omega)]; exact hk1) (by omega)
        unfold aNote
        rw [c43]
        by_cases c : k < 8
        · rw [if_pos c]
          refine Or.inl ⟨rfl, ?_⟩
          simp (disch := omega) only [g_Model_goOn_57, m1, if_true, M_cv, M_be hfm hn p0, bind_some', M_10, k1, nI_le0, eq_false z, if_false, M_of p3, eU, hU rfl, eq_false z2, M_note hfm hn hk1 k8, eq_true c, M_be hfm hn p3, pN_upd]
        · rw [if_neg c]
          refine Or.inr (Or.inl ⟨rfl, upd (upd (upd g hh (nI 0)) 122 (upd g hh (nI 0) 122 + nI 1)) (68 + hh) (nI 0), k, k8, ?_, ?_⟩)
          · rw [upd_ne (by omega), upd_ne (by omega)]
            exact hk1
          · simp (disch := omega) only [g_Model_goOn_57, m1, if_true, M_cv, M_be hfm hn p0, bind_some', M_10, k1, nI_le0, eq_false z, if_false, M_of p3, eU, hU rfl, eq_false z2, M_note hfm hn hk1 k8, eq_false c, M_be hfm hn p3]
  · rw [if_neg f1]
    refine Or.inl ⟨rfl, ?_⟩
    simp (disch := omega) only [g_Model_goOn_57, m1, if_true, M_cv, M_be hfm hn p0, bind_some', M_10, k1, f1, if_false]
theorem M_goOn {hh k w s : Nat} (hkd : kd < 9) (hf : fm = fmo kd) (hn : n ≤ 6) (h4 : m 4 = nI n) (H : MU n nw go h) (q : hh < n) (hgo : ∀ l i, i < nw hh l → go hh l i < 6) (hnw : ∀ l, nw hh l ≤ 270) (hw : g 18 = nI w) (w8 : w ≤ 8) (hk : g 43 = nI k) (k8 : k ≤ 8) (hs : g (12 + hh) = nI s) (s270 : s ≤ 270) (hU : fm = 1 → ((g (68 + hh) ≤ 0) = (g (68 + hh) = 0))) : SIM h m fm n kd d1 d2 (aGoOn fm n nw go g hh) (m_Model_goOn 670 (nI hh) (mg h m fm n kd (nI 0) d1 d2 g)) := by
  have hfm : fm < 6 := by rw [hf]; exact fmo_lt kd
  obtain ⟨L, L61, L0, hL0, hL, hI⟩ := MU_mg (m := m) (fm := fm) (kd := kd) (fu := nI 0) (d1 := d1) (d2 := d2) (g := g) H q
  have p0 : pm fm n (6 * hh + 0) = some hh := pm0 (by omega)
  have p1 : pm fm n (6 * hh + 1) = some (6 + hh) := pm1 (by omega)
  have p2 : pm fm n (6 * hh + 2) = some (12 + hh) := pm2 (by omega)
  have c1 : (n ≤ hh) = False := eq_false (by omega)
  have e : aGoOn fm n nw go g hh = if g hh = 0 then (-5, g) else if nI (nw hh (g (6 + hh) - nI 1)) ≤ g (12 + hh) then aSleep fm g hh else aSend fm n g hh (go hh (g (6 + hh) - nI 1) (cnt g (12 + hh))) := rfl
  rw [e]
  by_cases z0 : g hh = 0
  · rw [if_pos z0]
    refine Or.inr (Or.inr ⟨rfl, g, ?_⟩)
    simp (disch := omega) only [m_Model_goOn, nI_lt0, if_false, M_4 h4, bind_some', nI_le_iff, c1, M_cv, M_of p0, eq_true z0, if_true]
  · rw [if_neg z0]
    by_cases cl : nI L ≤ g (6 + hh) - nI 1
    · rw [hL0 _ cl, hs, if_pos (by rw [nI_le_iff (by omega) (by omega)]; omega)]
      have := M_sleep (h := h) (m := m) (d1 := d1) (d2 := d2) hkd hf hn (by omega : hh < 6) hk k8 hU
      simp (disch := omega) only [m_Model_goOn, nI_lt0, if_false, M_4 h4, bind_some', nI_le_iff, c1, M_cv, M_of p0, eq_false z0, M_of p1, hL, eq_true cl, if_true]
      exact this
    · have hi := hI _ cl s s270
      by_cases c : s < nw hh (g (6 + hh) - nI 1)
      · have gl6 := hgo _ _ c
        rw [if_neg (by rw [hs, nI_le_iff (by have := hnw (g (6 + hh) - nI 1); omega) (by omega)]; omega), cnt_nI hs (by omega)]
        rw [if_pos c] at hi
        have sw := M_sendWord (h := h) (fu := nI 0) (d1 := d1) (d2 := d2) hkd hf hn h4 (by omega : hh < 6) gl6 hw w8
        unfold aSend
        rw [cnt_nI hw (by omega)]
        have st : m_Model_goOn 670 (nI hh) (mg h m fm n kd (nI 0) d1 d2 g) = (m_Model_sendWord 670 (nI hh) (nI (go hh (g (6 + hh) - nI 1) s)) (mg h m fm n kd (nI 0) d1 d2 g)).bind fun h65 => some (nI 1, h65) := by
          simp (disch := omega) only [m_Model_goOn, nI_lt0, if_false, M_4 h4, bind_some', nI_le_iff, c1, M_cv, M_of p0, eq_false z0, M_of p1, hL, eq_false cl, M_of p2, hs, hi, g_Model_goOn_57]
        rw [st, sw]
        by_cases c3 : go hh (g (6 + hh) - nI 1) s < n
        · rw [if_pos c3, if_pos c3]
          by_cases c4 : w < 8
          · rw [if_pos c4, if_pos c4]
            exact Or.inl ⟨rfl, rfl⟩
          · rw [if_neg c4, if_neg c4]
            refine Or.inr (Or.inl ⟨rfl, _, k, k8, ?_, rfl⟩)
            unfold sG puR puG sG0
            split
            · rw [upd_ne (by omega)]
              split
              · rw [upd_ne (by omega), upd_ne (by omega)]; exact hk
              · rw [upd_ne (by omega), upd_ne (by omega), upd_ne (by omega), upd_ne (by omega)]; exact hk
            · split
              · rw [upd_ne (by omega), upd_ne (by omega), upd_ne (by omega)]; exact hk
              · split
                · rw [upd_ne (by omega), upd_ne (by omega), upd_ne (by omega)]; exact hk
                · split
                  · rw [upd_ne (by omega), upd_ne (by omega), upd_ne (by omega)]; exact hk
                  · rw [upd_ne (by omega), upd_ne (by omega)]; exact hk
        · rw [if_neg c3, if_neg c3]
          exact Or.inl ⟨rfl, rfl⟩
      · rw [if_neg c] at hi
        rw [if_pos (by rw [hs, nI_le_iff (by have := hnw (g (6 + hh) - nI 1); omega) (by omega)]; omega)]
        have := M_sleep (h := h) (m := m) (d1 := d1) (d2 := d2) hkd hf hn (by omega : hh < 6) hk k8 hU
        simp (disch := omega) only [m_Model_goOn, nI_lt0, if_false, M_4 h4, bind_some', nI_le_iff, c1, M_cv, M_of p0, eq_false z0, M_of p1, hL, eq_false cl, M_of p2, hs, hi]
        exact this
theorem M_goOn_no {x : Int32} (h4 : m 4 = nI n) (hn : n ≤ 6) (hx : ix x n = none) : m_Model_goOn 670 x (mg h m fm n kd fu d1 d2 g) = some (nI 0, mg h m fm n kd fu d1 d2 g) := by
  by_cases c : x < 0
  · simp only [m_Model_goOn, eq_true c, if_true]
  · have c2 : nI n ≤ x := by
      rcases ix_cases x n (by omega) with ⟨-, q | q⟩ | ⟨j, -, -, e⟩
      · exact absurd q c
      · exact q
      · rw [e] at hx; cases hx
    simp only [m_Model_goOn, eq_false c, if_false, M_4 h4, bind_some', eq_true c2, if_true]
theorem M_come88 {to k : Nat} (hkd : kd < 9) (hf : fm = fmo kd) (hn : n ≤ 6) (hto : to < n) (hk : g 43 = nI k) (k8 : k ≤ 8) (hI : fm = 2 → g (87 + to) = 0 ∨ g (87 + to) = nI 1) (fr u : Int32) : SIM h m fm n kd d1 d2 (aCome2 fm kd g fr to u) (g_Model_comes_88 670 fr (nI to) u (mg h m fm n kd (nI 0) d1 d2 g)) := by
  have hfm : fm < 6 := by rw [hf]; exact fmo_lt kd
  have k1 := M_k1 hkd hf
  have u2 := M_u2 hkd hf
  have u4 := M_u4 hkd hf
  have u5 := M_u5 hkd hf
  have n1 := nI1_0
  have n0 := nI0_0
  have to6 : to < 6 := by omega
  unfold aCome2
  by_cases f1 : fm = 1
  · subst f1
    have p3 : pm 1 n (6 * to + 3) = some (68 + to) := pm3 to6 (Or.inl rfl)
    refine Or.inl ⟨rfl, ?_⟩
    rw [if_pos rfl]
    simp only [g_Model_comes_88, M_10, bind_some', k1, if_true, M_cv, M_add hfm hn p3]
  · rw [if_neg f1]
    by_cases f2 : fm = 2
    · subst f2
      rw [if_pos rfl]
      have p4 : pm 2 n (6 * to + 4) = some (81 + to) := pm4 to6 hto (Or.inl rfl)
      have p5 : pm 2 n (6 * to + 5) = some (87 + to) := pm5 to6
      unfold aJoin
      rcases hI rfl with z | z
      · rw [if_neg (by rw [z]; decide)]
        refine Or.inl ⟨rfl, ?_⟩
        simp only [g_Model_comes_88, M_10, bind_some', k1, f1, if_false, u2, if_true, n1, M_cv, M_of p5, eq_true z, M_be hfm hn p5, M_be hfm hn p4]
      · rw [if_pos z]
        unfold aNote
        rw [cnt_nI hk (by omega)]
        by_cases c : k < 8
        · rw [if_pos c]
          refine Or.inl ⟨rfl, ?_⟩
          simp only [g_Model_comes_88, M_10, bind_some', k1, f1, if_false, u2, if_true, n1, M_cv, M_of p5, z, M_note hfm hn hk k8, eq_true c]
        · rw [if_neg c]
          refine Or.inr (Or.inl ⟨rfl, upd g 122 (g 122 + nI 1), k, k8, by rw [upd_ne (by omega)]; exact hk, ?_⟩)
          simp only [g_Model_comes_88, M_10, bind_some', k1, f1, if_false, u2, if_true, n1, M_cv, M_of p5, z, M_note hfm hn hk k8, eq_false c]
    · rw [if_neg f2]
      by_cases f4 : fm = 4
      · subst f4
        rw [if_pos rfl]
        have p3 : pm 4 n (6 * to + 3) = some (93 + to) := pm3 to6 (Or.inr (Or.inr (Or.inl rfl)))
        have p4 : pm 4 n (6 * to + 4) = some (99 + to) := pm4 to6 hto (Or.inr (Or.inl rfl))
        refine Or.inl ⟨rfl, ?_⟩
        by_cases c7 : kd = 7
        · simp (disch := omega) only [g_Model_comes_88, M_10, bind_some', k1, f1, if_false, u2, f2, n0, if_true, u4, n1, M_cv, M_add hfm hn p3, sub_1, nI_eq_iff, eq_true c7, M_be hfm hn p4]
        · simp (disch := omega) only [g_Model_comes_88, M_10, bind_some', k1, f1, if_false, u2, f2, n0, if_true, u4, n1, M_cv, M_add hfm hn p3, sub_1, nI_eq_iff, eq_false c7, M_be hfm hn p4]
      · rw [if_neg f4]
        by_cases f5 : fm = 5
        · subst f5
          rw [if_pos rfl]
          have p4 : pm 5 n (6 * to + 4) = some (111 + to) := pm4 to6 hto (Or.inr (Or.inr rfl))
          refine Or.inl ⟨rfl, ?_⟩
          simp (disch := omega) only [g_Model_comes_88, M_10, bind_some', k1, f1, if_false, u2, f2, n0, if_true, u4, f4, u5, n1, M_cv, M_add hfm hn p4]
        · rw [if_neg f5]
          refine Or.inl ⟨rfl, ?_⟩
          simp (disch := omega) only [g_Model_comes_88, M_10, bind_some', k1, f1, if_false, u2, f2, n0, if_true, u4, f4, u5, f5]
theorem M_come {i w k : Nat} (hkd : kd < 9) (hf : fm = fmo kd) (hn : n ≤ 6) (hw : g 18 = nI w) (w8 : w ≤ 8) (hi : i < w) (hk : g 43 = nI k) (k8 : k ≤ 8) (hto : ∃ t, t < n ∧ g (27 + i) = nI t) (hz : ∀ i, w ≤ i → i < 8 → g (19 + i) = 0 ∧ g (27 + i) = 0 ∧ g (35 + i) = 0) (hI : fm = 2 → ∀ to, to < 6 → g (87 + to) = 0 ∨ g (87 + to) = nI 1) : SIM h m fm n kd d1 d2 (aCome fm kd g i) (m_Model_comes 670 (nI i) (mg h m fm n kd (nI 0) d1 d2 g)) := by
  have hfm : fm < 6 := by rw [hf]; exact fmo_lt kd
  obtain ⟨t, tn, ht⟩ := hto
  have t6 : t < 6 := by omega
  have p0 : pm fm n (6 * t + 0) = some t := pm0 t6
  have p1 : pm fm n (6 * t + 1) = some (6 + t) := pm1 t6
  have p2 : pm fm n (6 * t + 2) = some (12 + t) := pm2 t6
  have ci : (i < w) = True := eq_true hi
  have hkw : wake (takeW g i) t 43 = nI k := by rw [wake_hi t6 (by omega), tW_hi i (by omega)]; exact hk
  have s88 := M_come88 (h := h) (m := m) (g := wake (takeW g i) t) (d1 := d1) (d2 := d2) hkd hf hn tn hkw k8 (fun z => by rw [wake_hi t6 (by omega), tW_hi i (by omega)]; exact hI z t t6) (g (19 + i)) (g (35 + i))
  unfold aCome
  rw [cnt_nI ht (by omega)]
  have e : m_Model_comes 670 (nI i) (mg h m fm n kd (nI 0) d1 d2 g) = g_Model_comes_88 670 (g (19 + i)) (nI t) (g (35 + i)) (mg h m fm n kd (nI 0) d1 d2 (wake (takeW g i) t)) := by
    unfold wake
    by_cases z : takeW g i t = 0
    · rw [if_pos z]
      have e6 : upd (takeW g i) t (nI 1) (6 + t) = takeW g i (6 + t) := upd_ne (by omega)
      simp (disch := omega) only [m_Model_comes, nI_lt0, if_false, M_cv, M_words, bind_some', hw, nI_lt_iff, ci, if_true, M_now, pk_mul, nI_add, M_ld (pmW0 (by omega : i < 8)), M_ld (pmW1 (by omega : i < 8)), M_ld (pmW2 (by omega : i < 8)), M_takeW hfm hn hw w8 hi hz, ht, M_of p0, eq_true z, M_be hfm hn p0, M_add hfm hn p1, M_be hfm hn p2, e6]
    · rw [if_neg z]
      simp (disch := omega) only [m_Model_comes, nI_lt0, if_false, M_cv, M_words, bind_some', hw, nI_lt_iff, ci, if_true, M_now, pk_mul, nI_add, M_ld (pmW0 (by omega : i < 8)), M_ld (pmW1 (by omega : i < 8)), M_ld (pmW2 (by omega : i < 8)), M_takeW hfm hn hw w8 hi hz, ht, M_of p0, eq_false z]
  rw [e]
  exact s88
theorem M_come_no {x : Int32} {w : Nat} (hw : g 18 = nI w) (w8 : w ≤ 8) (hx : ix x w = none) : m_Model_comes 670 x (mg h m fm n kd fu d1 d2 g) = some (nI 0, mg h m fm n kd fu d1 d2 g) := by
  by_cases c : x < 0
  · simp only [m_Model_comes, eq_true c, if_true]
  · have c2 : ¬ x < nI w := by
      rcases ix_cases x w (by omega) with ⟨-, q | q⟩ | ⟨j, -, -, e⟩
      · exact absurd q c
      · exact Int32.not_lt.mpr q
      · rw [e] at hx; cases hx
    simp only [m_Model_comes, eq_false c, if_false, M_cv, M_words, bind_some', hw, eq_false c2]
end MSU
