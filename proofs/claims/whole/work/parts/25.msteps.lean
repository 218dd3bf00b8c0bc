/-! THE MODEL'S STEPS -/
theorem upd_comm {f : Nat → Int32} {a b : Nat} {x y : Int32} (q : a ≠ b) : upd (upd f a x) b y = upd (upd f b y) a x := by
  funext k
  unfold upd
  by_cases e : k = b
  · rw [if_pos e, if_neg (fun z => q (z.symm.trans e)), if_pos e]
  · rw [if_neg e]
    by_cases e2 : k = a
    · rw [if_pos e2, if_pos e2]
    · rw [if_neg e2, if_neg e2, if_neg e]
theorem sG0_eq (g : Nat → Int32) {hh : Nat} (q : hh < 6) : upd (upd g (12 + hh) (g (12 + hh) + nI 1)) 121 (upd g (12 + hh) (g (12 + hh) + nI 1) 121 + nI 1) = sG0 g hh := by
  unfold sG0
  rw [upd_ne (by omega)]
/-- what the model asks of its texts -/
def MU (n : Nat) (nw : Nat → Int32 → Nat) (go : Nat → Int32 → Nat → Nat) (h : zH) : Prop :=
  ∀ hh, hh < n → ∃ L, L ≤ 61 ∧ 0 < L ∧ (∀ l : Int32, nI L ≤ l → nw hh l = 0) ∧ ∀ (h' : zH) (m' : Nat → Int32), h' 670 = MO m' → h' 672 = h 672 → h' 673 = h 673 → m_Model_lines 670 (nI hh) h' = some (nI L) ∧ (∀ l : Int32, ¬ nI L ≤ l → ∀ i, i ≤ 270 → m_Model_inLine 670 (nI hh) l (nI i) h' = some (if i < nw hh l then nI (go hh l i) else -1)) ∧ ∀ l : Int32, ¬ l < 0 → ¬ nI L ≤ l → m_Model_inLine 670 (nI hh) l (-1) h' = some (nI (nw hh l))
section MST
variable {h : zH} {m g : Nat → Int32} {fm n kd : Nat} {fu d1 d2 : Int32} {nw : Nat → Int32 → Nat} {go : Nat → Int32 → Nat → Nat}
theorem MU_mg (H : MU n nw go h) {hh : Nat} (q : hh < n) : ∃ L, L ≤ 61 ∧ 0 < L ∧ (∀ l : Int32, nI L ≤ l → nw hh l = 0) ∧ m_Model_lines 670 (nI hh) (mg h m fm n kd fu d1 d2 g) = some (nI L) ∧ ∀ (l : Int32), ¬ nI L ≤ l → ∀ i, i ≤ 270 → m_Model_inLine 670 (nI hh) l (nI i) (mg h m fm n kd fu d1 d2 g) = some (if i < nw hh l then nI (go hh l i) else -1) := by
  obtain ⟨L, a, b, c, d⟩ := H hh q
  obtain ⟨e, f, -⟩ := d (mg h m fm n kd fu d1 d2 g) _ M_670 (mh_ne (by omega) (by omega)) (mh_ne (by omega) (by omega))
  exact ⟨L, a, b, c, e, f⟩
theorem M_sw117 {hh gl w : Nat} (hfm : fm < 6) (hn : n ≤ 6) (h4 : m 4 = nI n) (hgl : gl < 6) (hw : g 18 = nI w) (w8 : w ≤ 8) (u : Int32) : g_Model_sendWord_117 670 (nI hh) (nI gl) u (mg h m fm n kd fu d1 d2 g) = some (if gl < n then (if w < 8 then mg h m fm n kd fu d1 d2 (pushW g w (nI hh) (nI gl) u) else mg h m fm n kd (nI 1) d1 d2 g) else mg h m fm n kd fu d1 d2 g) := by
  by_cases c : gl < n
  · have c' : (n ≤ gl) = False := eq_false (by omega)
    rw [if_pos c]
    simp (disch := omega) only [g_Model_sendWord_117, M_4 h4, bind_some', nI_le_iff, c', if_false, M_cv, M_putW hfm hn hw w8]
  · have c' : (n ≤ gl) = True := eq_true (by omega)
    rw [if_neg c]
    simp (disch := omega) only [g_Model_sendWord_117, M_4 h4, bind_some', nI_le_iff, c', if_true]
theorem M_sw57 {hh gl w : Nat} (hn : n ≤ 6) (h4 : m 4 = nI n) (q : hh < 6) (hgl : gl < 6) (hw : g 18 = nI w) (w8 : w ≤ 8) : g_Model_sendWord_57 670 (nI hh) (nI gl) (mg h m 1 n kd fu d1 d2 g) = g_Model_sendWord_117 670 (nI hh) (nI gl) (g (68 + hh) / nI 2) (mg h m 1 n kd fu d1 d2 (upd g (68 + hh) (g (68 + hh) - g (68 + hh) / nI 2))) := by
  have p3 : pm 1 n (6 * hh + 3) = some (68 + hh) := pm3 q (Or.inl rfl)
  have e : g (68 + hh) - g (68 + hh) / nI 2 = g (68 + hh) + -(g (68 + hh) / nI 2) := Int32.sub_eq_add_neg _ _
  have a := M_add (h := h) (m := m) (g := g) (kd := kd) (fu := fu) (d1 := d1) (d2 := d2) (by omega) hn p3 (-(g (68 + hh) / nI 2))
  rw [e]
  unfold g_Model_sendWord_57
  rw [M_cv, M_of p3, bind_some', M_cv, a, bind_some']
theorem M_sendWord {hh gl w : Nat} (hkd : kd < 9) (hf : fm = fmo kd) (hn : n ≤ 6) (h4 : m 4 = nI n) (q : hh < 6) (hgl : gl < 6) (hw : g 18 = nI w) (w8 : w ≤ 8) : m_Model_sendWord 670 (nI hh) (nI gl) (mg h m fm n kd fu d1 d2 g) = some (if gl < n then (if w < 8 then mg h m fm n kd fu d1 d2 (pushW (sG fm g hh) w (nI hh) (nI gl) (sU fm g hh)) else mg h m fm n kd (nI 1) d1 d2 (sG fm g hh)) else mg h m fm n kd fu d1 d2 (sG fm g hh)) := by
  have hfm : fm < 6 := by rw [hf]; exact fmo_lt kd
  have p2 : pm fm n (6 * hh + 2) = some (12 + hh) := pm2 q
  have hw0 : sG0 g hh 18 = nI w := by rw [sG0_ne (by omega) (by omega)]; exact hw
  have e1 : ∀ j, 18 ≤ j → j < 121 → sG0 g hh j = g j := fun j a b => sG0_ne (by omega) (by omega)
  have hwG : sG fm g hh 18 = nI w := by rw [sG_18 hh q]; exact hw
  have k1 := M_k1 hkd hf
  have u2 := M_u2 hkd hf
  have u4 := M_u4 hkd hf
  have u5 := M_u5 hkd hf
  have start : m_Model_sendWord 670 (nI hh) (nI gl) (mg h m fm n kd fu d1 d2 g) = g_Model_sendWord_117 670 (nI hh) (nI gl) (sU fm g hh) (mg h m fm n kd fu d1 d2 (sG fm g hh)) := by
    have n1 := nI1_0
    have n0 := nI0_0
    by_cases f1 : fm = 1
    · subst f1
      have p3 : pm 1 n (6 * hh + 3) = some (68 + hh) := pm3 q (Or.inl rfl)
      have eG : sG 1 g hh = puR (sG0 g hh) hh := if_pos rfl
      have eU : sU 1 g hh = puH (sG0 g hh) hh := if_pos rfl
      rw [eG, eU]
      by_cases c : nI 1 < sG0 g hh (68 + hh)
      · have e : puG (sG0 g hh) hh = sG0 g hh := if_pos c
        unfold puR puH
        rw [e]
        simp only [m_Model_sendWord, M_cv, M_add hfm hn p2, bind_some', M_8, M_w8 hfm hn, sG0_eq g q, M_10, k1, if_true, M_of p3, eq_true c, M_sw57 hn h4 q hgl hw0 w8]
      · have e : puG (sG0 g hh) hh = upd (upd (sG0 g hh) (68 + hh) (sG0 g hh (68 + hh) + nI 64)) 74 (upd (sG0 g hh) (68 + hh) (sG0 g hh (68 + hh) + nI 64) 74 + nI 64) := by
          unfold puG
          rw [if_neg c, upd_ne (f := sG0 g hh) (k := 68 + hh) (by omega)]
        have hw2 : puG (sG0 g hh) hh 18 = nI w := by rw [puG_18 hh q]; exact hw0
        unfold puR puH
        rw [e] at hw2 ⊢
        simp only [m_Model_sendWord, M_cv, M_add hfm hn p2, bind_some', M_8, M_w8 hfm hn, sG0_eq g q, M_10, k1, if_true, M_of p3, eq_false c, if_false, M_add hfm hn p3, M_now, M_ld pm_c.2.2.1, M_st hfm hn pm_c.2.2.1]
        exact M_sw57 hn h4 q hgl hw2 w8
    · have eU : sU fm g hh = nI 0 := if_neg f1
      rw [eU]
      by_cases f2 : fm = 2
      · subst f2
        have p3 : pm 2 n (6 * hh + 3) = some (75 + hh) := pm3 q (Or.inr (Or.inl rfl))
        have eG : sG 2 g hh = upd (sG0 g hh) (75 + hh) (sG0 g hh (75 + hh) + nI 1) := by rw [e1 _ (by omega) (by omega)]; rfl
        rw [eG]
        simp only [m_Model_sendWord, M_cv, M_add hfm hn p2, bind_some', M_8, M_w8 hfm hn, sG0_eq g q, M_10, k1, f1, if_false, u2, if_true, n1, M_add hfm hn p3]
      · by_cases f4 : fm = 4
        · subst f4
          have p3 : pm 4 n (6 * hh + 3) = some (93 + hh) := pm3 q (Or.inr (Or.inr (Or.inl rfl)))
          have eG : sG 4 g hh = upd (sG0 g hh) (93 + hh) (sG0 g hh (93 + hh) + nI 1) := by rw [e1 _ (by omega) (by omega)]; rfl
          rw [eG]
          simp only [m_Model_sendWord, M_cv, M_add hfm hn p2, bind_some', M_8, M_w8 hfm hn, sG0_eq g q, M_10, k1, f1, f2, if_false, u2, if_true, n0, n1, u4, M_add hfm hn p3]
        · by_cases f5 : fm = 5
          · subst f5
            have p3 : pm 5 n (6 * hh + 3) = some (105 + hh) := pm3 q (Or.inr (Or.inr (Or.inr rfl)))
            have eG : sG 5 g hh = upd (sG0 g hh) (105 + hh) (sG0 g hh (105 + hh) + nI 1) := by rw [e1 _ (by omega) (by omega)]; rfl
            rw [eG]
            simp only [m_Model_sendWord, M_cv, M_add hfm hn p2, bind_some', M_8, M_w8 hfm hn, sG0_eq g q, M_10, k1, f1, f2, f4, if_false, u2, if_true, n0, n1, u4, u5, M_add hfm hn p3]
          · have eG : sG fm g hh = sG0 g hh := by
              unfold sG
              rw [if_neg f1, if_neg f2, if_neg f4, if_neg f5]
            rw [eG]
            simp only [m_Model_sendWord, M_cv, M_add hfm hn p2, bind_some', M_8, M_w8 hfm hn, sG0_eq g q, M_10, k1, f1, f2, f4, f5, if_false, u2, if_true, n0, u4, u5]
  rw [start]
  exact M_sw117 hfm hn h4 hgl hwG w8 _
end MST
