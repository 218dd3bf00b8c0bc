/-! THE MODEL'S STEPS: WHAT IS LOOKED AT BEHIND A STEP; A WHOLE STEP -/
section MSW
variable {h : zH} {m g : Nat → Int32} {fm n kd : Nat} {fu d1 d2 : Int32} {nw : Nat → Int32 → Nat} {go : Nat → Int32 → Nat → Nat}
def fin2 (g : Nat → Int32) : Nat → Int32 := if g 0 = 0 ∧ ¬ 0 < g 75 then upd g 120 (nI 1) else g
def fin1 (g : Nat → Int32) : Nat → Int32 := if g 0 = 0 ∧ g 68 = g 74 then upd g 120 (nI 1) else g
theorem M_b126n (hkd : kd < 9) (hf : fm = fmo kd) (f1 : ¬ fm = 1) : g_Model_behind_126 670 (mg h m fm n kd fu d1 d2 g) = some (mg h m fm n kd fu d1 d2 g) := by
  have k1 := M_k1 hkd hf
  simp only [g_Model_behind_126, M_10, bind_some', k1, f1, if_false]
theorem M_b126 (hkd : kd < 9) (hf : 1 = fmo kd) (hn : n ≤ 6) : g_Model_behind_126 670 (mg h m 1 n kd fu d1 d2 g) = some (mg h m 1 n kd fu d1 d2 (fin1 g)) := by
  have k1 := M_k1 hkd hf
  have p0 : pm 1 n (6 * 0 + 0) = some 0 := pm0 (by omega)
  have p3 : pm 1 n (6 * 0 + 3) = some 68 := pm3 (by omega) (Or.inl rfl)
  obtain ⟨-, -, p86, p87, -⟩ := pm_c (fm := 1) (n := n)
  have e : upd g 120 (g 120) = g := upd_same
  have hfm : 1 < 6 := by omega
  unfold fin1
  by_cases z : g 0 = 0
  · by_cases y : g 68 = g 74
    · rw [if_pos ⟨z, y⟩]
      simp only [g_Model_behind_126, M_10, bind_some', k1, if_true, M_now, M_cv, M_of p0, eq_true z, M_of p3, M_ld p86, eq_true y, M_st hfm hn p87]
    · rw [if_neg (fun q => y q.2)]
      simp only [g_Model_behind_126, M_10, bind_some', k1, if_true, M_now, M_cv, M_of p0, eq_true z, M_of p3, M_ld p86, eq_false y, if_false, M_ld p87, M_st hfm hn p87, e]
  · rw [if_neg (fun q => z q.1)]
    simp only [g_Model_behind_126, M_10, bind_some', k1, if_true, M_now, M_cv, M_of p0, eq_false z, if_false, M_ld p87, M_st hfm hn p87, e]
theorem M_bEnd {hh : Nat} (hkd : kd < 9) (hf : 2 = fmo kd) (hn : n ≤ 6) (h4 : m 4 = nI n) (q : n ≤ hh) (h100 : hh < 1000) (K : (Int32 × zH) → Option zH) : g_Model_behind_13 670 K (nI hh, mg h m 2 n kd fu d1 d2 g) = some (mg h m 2 n kd fu d1 d2 (fin2 g)) := by
  have c : (n ≤ hh) = True := eq_true q
  have p0 : pm 2 n (6 * 0 + 0) = some 0 := pm0 (by omega)
  have p3 : pm 2 n (6 * 0 + 3) = some 75 := pm3 (by omega) (Or.inr (Or.inl rfl))
  have p87 := (pm_c (fm := 2) (n := n)).2.2.2.1
  have e : upd g 120 (g 120) = g := upd_same
  have hfm : 2 < 6 := by omega
  have f1 : ¬ (2 : Nat) = 1 := by omega
  unfold fin2
  by_cases z : g 0 = 0
  · by_cases y : 0 < g 75
    · rw [if_neg (fun q => q.2 y)]
      simp (disch := omega) only [g_Model_behind_13, M_4 h4, bind_some', nI_le_iff, c, if_true, M_now, M_cv, M_of p0, eq_true z, M_of p3, eq_true y, M_ld p87, M_st hfm hn p87, e, M_b126n hkd hf f1]
    · rw [if_pos ⟨z, y⟩]
      simp (disch := omega) only [g_Model_behind_13, M_4 h4, bind_some', nI_le_iff, c, if_true, M_now, M_cv, M_of p0, eq_true z, M_of p3, eq_false y, if_false, M_ld p87, M_st hfm hn p87, M_b126n hkd hf f1]
  · rw [if_neg (fun q => z q.1)]
    simp (disch := omega) only [g_Model_behind_13, M_4 h4, bind_some', nI_le_iff, c, if_true, M_now, M_cv, M_of p0, eq_false z, if_false, M_ld p87, M_st hfm hn p87, e, M_b126n hkd hf f1]
def lvF (g : Nat → Int32) (hh : Nat) : Nat → Int32 := upd (upd (upd g 122 (g 122 + nI 1)) (87 + hh) (nI 0)) (81 + hh) (-1)
theorem M_b58 {hh k : Nat} (hn : n ≤ 6) (q : hh < n) (hk : g 43 = nI k) (k8 : k ≤ 8) (K : (Int32 × zH) → Option zH) : g_Model_behind_58 670 (nI hh) (mg h m 2 n kd fu d1 d2 g) K = K (nI (hh + 1), if k < 8 then mg h m 2 n kd fu d1 d2 (upd (upd (pushN g k (g (81 + hh)) (nI 0) (nI 0)) (87 + hh) (nI 0)) (81 + hh) (-1)) else mg h m 2 n kd (nI 1) d1 d2 (lvF g hh)) := by
  have hfm : 2 < 6 := by omega
  have p4 : pm 2 n (6 * hh + 4) = some (81 + hh) := pm4 (by omega) q (Or.inl rfl)
  have p5 : pm 2 n (6 * hh + 5) = some (87 + hh) := pm5 (by omega)
  by_cases c : k < 8
  · rw [if_pos c]
    simp only [g_Model_behind_58, M_cv, M_of p4, bind_some', M_note hfm hn hk k8, eq_true c, if_true, M_be hfm hn p5, M_be hfm hn p4, nI_add]
  · rw [if_neg c]
    simp only [g_Model_behind_58, M_cv, M_of p4, bind_some', M_note hfm hn hk k8, eq_false c, if_false, M_be hfm hn p5, M_be hfm hn p4, nI_add]
    rfl
theorem M_bStep {hh k : Nat} (hkd : kd < 9) (hn : n ≤ 6) (h4 : m 4 = nI n) (q : hh < n) (hk : g 43 = nI k) (k8 : k ≤ 8) (K : (Int32 × zH) → Option zH) : g_Model_behind_13 670 K (nI hh, mg h m 2 n kd fu d1 d2 g) = K (nI (hh + 1), if (kd = 6 ∨ g (75 + hh) = 0) ∧ g (87 + hh) = nI 1 ∧ g hh = 0 then (if k < 8 then mg h m 2 n kd fu d1 d2 (upd (upd (pushN g k (g (81 + hh)) (nI 0) (nI 0)) (87 + hh) (nI 0)) (81 + hh) (-1)) else mg h m 2 n kd (nI 1) d1 d2 (lvF g hh)) else mg h m 2 n kd fu d1 d2 g) := by
  have c : (n ≤ hh) = False := eq_false (by omega)
  have p0 : pm 2 n (6 * hh + 0) = some hh := pm0 (by omega)
  have p3 : pm 2 n (6 * hh + 3) = some (75 + hh) := pm3 (by omega) (Or.inr (Or.inl rfl))
  have p5 : pm 2 n (6 * hh + 5) = some (87 + hh) := pm5 (by omega)
  by_cases a1 : g (87 + hh) = nI 1
  · by_cases a2 : g hh = 0
    · by_cases a3 : kd = 6
      · rw [if_pos ⟨Or.inl a3, a1, a2⟩]
        simp (disch := omega) only [g_Model_behind_13, M_4 h4, bind_some', nI_le_iff, c, if_false, M_cv, M_of p5, eq_true a1, if_true, M_of p0, eq_true a2, M_10, nI_eq_iff, eq_true a3, M_b58 hn q hk k8]
      · by_cases a4 : g (75 + hh) = 0
        · rw [if_pos ⟨Or.inr a4, a1, a2⟩]
          simp (disch := omega) only [g_Model_behind_13, M_4 h4, bind_some', nI_le_iff, c, if_false, M_cv, M_of p5, eq_true a1, if_true, M_of p0, eq_true a2, M_10, nI_eq_iff, eq_false a3, M_of p3, eq_true a4, M_b58 hn q hk k8]
        · rw [if_neg (fun z => z.1.elim a3 a4)]
          simp (disch := omega) only [g_Model_behind_13, M_4 h4, bind_some', nI_le_iff, c, if_false, M_cv, M_of p5, eq_true a1, if_true, M_of p0, eq_true a2, M_10, nI_eq_iff, eq_false a3, M_of p3, eq_false a4, nI_add]
    · rw [if_neg (fun z => a2 z.2.2)]
      simp (disch := omega) only [g_Model_behind_13, M_4 h4, bind_some', nI_le_iff, c, if_false, M_cv, M_of p5, eq_true a1, if_true, M_of p0, eq_false a2, nI_add]
  · rw [if_neg (fun z => a1 z.2.1)]
    simp (disch := omega) only [g_Model_behind_13, M_4 h4, bind_some', nI_le_iff, c, if_false, M_cv, M_of p5, eq_false a1, nI_add]
theorem pN_43' {g : Nat → Int32} {k hh : Nat} {a b x y z : Int32} (q : hh < 6) : upd (upd (pushN g k x y z) (87 + hh) a) (81 + hh) b 43 = nI (k + 1) := by
  rw [upd_ne (by omega), upd_ne (by omega), pN_43]
theorem M_bW (hkd : kd < 9) (hf : 2 = fmo kd) (hn : n ≤ 6) (h4 : m 4 = nI n) : ∀ (d hh f : Nat) (g : Nat → Int32) (k : Nat), n - hh = d → hh < 10 → g 43 = nI k → k ≤ 8 → d < f → ∃ g', zloop (g_Model_behind_13 670) f (nI hh, mg h m 2 n kd (nI 1) d1 d2 g) = some (mg h m 2 n kd (nI 1) d1 d2 g') := by
  intro d
  induction d with
  | zero =>
    intro hh f g k hd h10 hk k8 hf'
    obtain ⟨f, rfl⟩ : ∃ k, f = k + 1 := ⟨f - 1, by omega⟩
    exact ⟨_, M_bEnd hkd hf hn h4 (by omega) (by omega) _⟩
  | succ d ih =>
    intro hh f g k hd h10 hk k8 hf'
    obtain ⟨f, rfl⟩ : ∃ k, f = k + 1 := ⟨f - 1, by omega⟩
    have e := M_bStep (h := h) (m := m) (fu := nI 1) (d1 := d1) (d2 := d2) hkd hn h4 (by omega : hh < n) hk k8 (zloop (g_Model_behind_13 670) f)
    have hk2 : lvF g hh 43 = nI k := by
      unfold lvF
      rw [upd_ne (by omega), upd_ne (by omega), upd_ne (by omega)]
      exact hk
    by_cases c : (kd = 6 ∨ g (75 + hh) = 0) ∧ g (87 + hh) = nI 1 ∧ g hh = 0
    · rw [if_pos c] at e
      by_cases c2 : k < 8
      · rw [if_pos c2] at e
        obtain ⟨g', hg'⟩ := ih (hh + 1) f _ (k + 1) (by omega) (by omega) (pN_43' (g := g) (a := nI 0) (b := -1) (x := g (81 + hh)) (y := nI 0) (z := nI 0) (by omega : hh < 6)) (by omega) (by omega)
        exact ⟨g', e.trans hg'⟩
      · rw [if_neg c2] at e
        obtain ⟨g', hg'⟩ := ih (hh + 1) f _ k (by omega) (by omega) hk2 k8 (by omega)
        exact ⟨g', e.trans hg'⟩
    · rw [if_neg c] at e
      obtain ⟨g', hg'⟩ := ih (hh + 1) f g k (by omega) (by omega) hk k8 (by omega)
      exact ⟨g', e.trans hg'⟩
theorem M_bL (hkd : kd < 9) (hf : 2 = fmo kd) (hn : n ≤ 6) (h4 : m 4 = nI n) : ∀ (d hh f : Nat) (g : Nat → Int32) (k : Nat), n - hh = d → hh < 10 → g 43 = nI k → k ≤ 8 → d < f →
    ((lvL kd d hh g).1 = nI 1 ∧ zloop (g_Model_behind_13 670) f (nI hh, mg h m 2 n kd (nI 0) d1 d2 g) = some (mg h m 2 n kd (nI 0) d1 d2 (fin2 (lvL kd d hh g).2))) ∨ ((lvL kd d hh g).1 = -3 ∧ ∃ g', zloop (g_Model_behind_13 670) f (nI hh, mg h m 2 n kd (nI 0) d1 d2 g) = some (mg h m 2 n kd (nI 1) d1 d2 g')) := by
  intro d
  induction d with
  | zero =>
    intro hh f g k hd h10 hk k8 hf'
    obtain ⟨f, rfl⟩ : ∃ k, f = k + 1 := ⟨f - 1, by omega⟩
    exact Or.inl ⟨rfl, M_bEnd hkd hf hn h4 (by omega) (by omega) _⟩
  | succ d ih =>
    intro hh f g k hd h10 hk k8 hf'
    obtain ⟨f, rfl⟩ : ∃ k, f = k + 1 := ⟨f - 1, by omega⟩
    have e := M_bStep (h := h) (m := m) (fu := nI 0) (d1 := d1) (d2 := d2) hkd hn h4 (by omega : hh < n) hk k8 (zloop (g_Model_behind_13 670) f)
    have c43 : cnt g 43 = k := cnt_nI hk (by omega)
    have hk2 : lvF g hh 43 = nI k := by
      unfold lvF
      rw [upd_ne (by omega), upd_ne (by omega), upd_ne (by omega)]
      exact hk
    by_cases c : (kd = 6 ∨ g (75 + hh) = 0) ∧ g (87 + hh) = nI 1 ∧ g hh = 0
    · rw [if_pos c] at e
      by_cases c2 : k < 8
      · rw [if_pos c2] at e
        have es : lvS kd g hh = (nI 1, upd (upd (pushN g k (g (81 + hh)) (nI 0) (nI 0)) (87 + hh) (nI 0)) (81 + hh) (-1)) := by
          unfold lvS aNote
          rw [if_pos c, c43, if_pos c2]
        have el : lvL kd (d + 1) hh g = lvL kd d (hh + 1) (upd (upd (pushN g k (g (81 + hh)) (nI 0) (nI 0)) (87 + hh) (nI 0)) (81 + hh) (-1)) := by
          show (if (lvS kd g hh).1 = nI 1 then lvL kd d (hh + 1) (lvS kd g hh).2 else lvS kd g hh) = _
          rw [es]
          exact if_pos rfl
        rw [el]
        rcases ih (hh + 1) f _ (k + 1) (by omega) (by omega) (pN_43' (g := g) (a := nI 0) (b := -1) (x := g (81 + hh)) (y := nI 0) (z := nI 0) (by omega : hh < 6)) (by omega) (by omega) with ⟨a, b⟩ | ⟨a, g', b⟩
        · exact Or.inl ⟨a, e.trans b⟩
        · exact Or.inr ⟨a, g', e.trans b⟩
      · rw [if_neg c2] at e
        obtain ⟨g', hg'⟩ := M_bW (h := h) (m := m) (d1 := d1) (d2 := d2) hkd hf hn h4 d (hh + 1) f _ k (by omega) (by omega) hk2 k8 (by omega)
        refine Or.inr ⟨?_, g', e.trans hg'⟩
        have es : (lvS kd g hh).1 = -3 := by
          unfold lvS aNote
          rw [if_pos c, c43, if_neg c2]
        show (if (lvS kd g hh).1 = nI 1 then lvL kd d (hh + 1) (lvS kd g hh).2 else lvS kd g hh).1 = -3
        rw [if_neg (by rw [es]; exact n3ne)]
        exact es
    · rw [if_neg c] at e
      have es : lvS kd g hh = (nI 1, g) := if_neg c
      have el : lvL kd (d + 1) hh g = lvL kd d (hh + 1) g := by
        show (if (lvS kd g hh).1 = nI 1 then lvL kd d (hh + 1) (lvS kd g hh).2 else lvS kd g hh) = _
        rw [es]
        exact if_pos rfl
      rw [el]
      rcases ih (hh + 1) f g k (by omega) (by omega) hk k8 (by omega) with ⟨a, b⟩ | ⟨a, g', b⟩
      · exact Or.inl ⟨a, e.trans b⟩
      · exact Or.inr ⟨a, g', e.trans b⟩
theorem lvL_0 {kd : Nat} : ∀ (d hh : Nat) (g : Nat → Int32), 0 < hh → (lvL kd d hh g).2 0 = g 0 := by
  intro d
  induction d with
  | zero => intro hh g _; rfl
  | succ d ih =>
    intro hh g h0
    have es : (lvS kd g hh).2 0 = g 0 := by
      unfold lvS
      split
      · show upd (upd _ _ _) _ _ 0 = _
        rw [upd_ne (by omega), upd_ne (by omega), aNote_lo (by omega)]
      · rfl
    show (if (lvS kd g hh).1 = nI 1 then lvL kd d (hh + 1) (lvS kd g hh).2 else lvS kd g hh).2 0 = g 0
    split
    · rw [ih _ _ (by omega), es]
    · exact es
theorem see2 {g : Nat → Int32} (h0 : g 0 = 0 ∨ g 0 = nI 1) : aSee 2 (nI 1, g) = (nI 1, fin2 g) := by
  unfold aSee fin2 sees
  rcases h0 with z | z
  · have z1 : ¬ g 0 = nI 1 := by rw [z]; decide
    by_cases y : 0 < g 75
    · rw [if_neg (fun q => q.2.2.elim (fun w => absurd w.1 (by omega)) (fun w => w.2 y)), if_neg (fun q => q.2 y)]
    · rw [if_pos ⟨rfl, z1, Or.inr ⟨rfl, y⟩⟩, if_pos ⟨z, y⟩]
  · rw [if_neg (fun q => q.2.1 z), if_neg (fun q => by rw [q.1] at z; exact absurd z (by decide))]
theorem see1 {g : Nat → Int32} (h0 : g 0 = 0 ∨ g 0 = nI 1) : aSee 1 (nI 1, g) = (nI 1, fin1 g) := by
  unfold aSee fin1 sees
  rcases h0 with z | z
  · have z1 : ¬ g 0 = nI 1 := by rw [z]; decide
    by_cases y : g 68 = g 74
    · rw [if_pos ⟨rfl, z1, Or.inl ⟨rfl, y⟩⟩, if_pos ⟨z, y⟩]
    · rw [if_neg (fun q => q.2.2.elim (fun w => y w.2) (fun w => absurd w.1 (by omega))), if_neg (fun q => y q.2)]
  · rw [if_neg (fun q => q.2.1 z), if_neg (fun q => by rw [q.1] at z; exact absurd z (by decide))]
theorem see0 {g : Nat → Int32} {fm : Nat} (f1 : ¬ fm = 1) (f2 : ¬ fm = 2) : aSee fm (nI 1, g) = (nI 1, g) := by
  unfold aSee sees
  rw [if_neg (fun q => q.2.2.elim (fun w => f1 w.1) (fun w => f2 w.1))]
theorem M_behind {k : Nat} (hkd : kd < 9) (hf : fm = fmo kd) (hn : n ≤ 6) (hn0 : 0 < n) (h4 : m 4 = nI n) (hk : g 43 = nI k) (k8 : k ≤ 8) (h0 : g 0 = 0 ∨ g 0 = nI 1) : ((aFin fm kd n (nI 1, g)).1 = nI 1 ∧ m_Model_behind 670 (mg h m fm n kd (nI 0) d1 d2 g) = some (mg h m fm n kd (nI 0) d1 d2 (aFin fm kd n (nI 1, g)).2)) ∨ ((aFin fm kd n (nI 1, g)).1 = -3 ∧ ∃ g', m_Model_behind 670 (mg h m fm n kd (nI 0) d1 d2 g) = some (mg h m fm n kd (nI 1) d1 d2 g')) := by
  have u2 := M_u2 hkd hf
  have n1 := nI1_0
  have n0 := nI0_0
  have z := zN_big
  have ea : aFin fm kd n (nI 1, g) = aSee fm (if fm = 2 then aLeave kd n g else (nI 1, g)) := if_pos rfl
  by_cases f2 : fm = 2
  · subst f2
    have e : m_Model_behind 670 (mg h m 2 n kd (nI 0) d1 d2 g) = zloop (g_Model_behind_13 670) zN (nI 1, mg h m 2 n kd (nI 0) d1 d2 g) := by
      simp only [m_Model_behind, M_10, bind_some', u2, if_true, n1, if_false]
    rw [ea, e, if_pos rfl]
    unfold aLeave
    rcases M_bL (h := h) (m := m) (d1 := d1) (d2 := d2) hkd hf hn h4 (n - 1) 1 zN g k rfl (by omega) hk k8 (by omega) with ⟨a, b⟩ | ⟨a, b⟩
    · have e3 : aSee 2 (lvL kd (n - 1) 1 g) = (nI 1, fin2 (lvL kd (n - 1) 1 g).2) := by
        have : lvL kd (n - 1) 1 g = (nI 1, (lvL kd (n - 1) 1 g).2) := Prod.ext a rfl
        rw [this]
        exact see2 (by rw [lvL_0 _ _ _ (by omega)]; exact h0)
      rw [e3]
      exact Or.inl ⟨rfl, b⟩
    · refine Or.inr ⟨?_, b⟩
      unfold aSee
      rw [if_neg (fun q => by rw [a] at q; exact n3ne q.1)]
      exact a
  · have e : m_Model_behind 670 (mg h m fm n kd (nI 0) d1 d2 g) = g_Model_behind_126 670 (mg h m fm n kd (nI 0) d1 d2 g) := by
      simp only [m_Model_behind, M_10, bind_some', u2, f2, if_true, n0, if_false]
    rw [ea, e, if_neg f2]
    refine Or.inl ?_
    by_cases f1 : fm = 1
    · subst f1
      rw [see1 h0, M_b126 hkd hf hn]
      exact ⟨rfl, rfl⟩
    · rw [see0 f1 f2, M_b126n hkd hf f1]
      exact ⟨rfl, rfl⟩
theorem M_behindW {k : Nat} (hkd : kd < 9) (hf : fm = fmo kd) (hn : n ≤ 6) (hn0 : 0 < n) (h4 : m 4 = nI n) (hk : g 43 = nI k) (k8 : k ≤ 8) : ∃ g', m_Model_behind 670 (mg h m fm n kd (nI 1) d1 d2 g) = some (mg h m fm n kd (nI 1) d1 d2 g') := by
  have u2 := M_u2 hkd hf
  have n1 := nI1_0
  have n0 := nI0_0
  have z := zN_big
  by_cases f2 : fm = 2
  · subst f2
    have e : m_Model_behind 670 (mg h m 2 n kd (nI 1) d1 d2 g) = zloop (g_Model_behind_13 670) zN (nI 1, mg h m 2 n kd (nI 1) d1 d2 g) := by
      simp only [m_Model_behind, M_10, bind_some', u2, if_true, n1, if_false]
    rw [e]
    exact M_bW hkd hf hn h4 (n - 1) 1 zN g k rfl (by omega) hk k8 (by omega)
  · have e : m_Model_behind 670 (mg h m fm n kd (nI 1) d1 d2 g) = g_Model_behind_126 670 (mg h m fm n kd (nI 1) d1 d2 g) := by
      simp only [m_Model_behind, M_10, bind_some', u2, f2, if_true, n0, if_false]
    rw [e]
    by_cases f1 : fm = 1
    · subst f1
      exact ⟨_, M_b126 hkd hf hn⟩
    · exact ⟨_, M_b126n hkd hf f1⟩
/-- what a step of the model comes to, beside a step of the class -/
def STP (h : zH) (m : Nat → Int32) (fm n kd : Nat) (d1 d2 : Int32) (p : cA) (o : Option (Int32 × zH)) : Prop :=
  (p.1 = nI 1 ∧ o = some (nI 1, mg h m fm n kd (nI 0) d1 d2 p.2)) ∨ ((p.1 = -3 ∨ p.1 = -5) ∧ ∃ fu g, (fu = nI 0 ∨ fu = nI 1) ∧ o = some (p.1, mg h m fm n kd fu d1 d2 g))
theorem M_105 {p : cA} {o : Option (Int32 × zH)} (hkd : kd < 9) (hf : fm = fmo kd) (hn : n ≤ 6) (hn0 : 0 < n) (h4 : m 4 = nI n) (hs : SIM h m fm n kd d1 d2 p o) (hp : p.1 = nI 1 → (∃ k, k ≤ 8 ∧ p.2 43 = nI k) ∧ (p.2 0 = 0 ∨ p.2 0 = nI 1)) : STP h m fm n kd d1 d2 (aFin fm kd n p) (zb2 o fun v h1 => g_Model_doStep_105 670 v h1) := by
  have n1 := nI1_0
  have n0 := nI0_0
  rcases hs with ⟨a, ho⟩ | ⟨a, g, k, k8, hk, ho⟩ | ⟨a, g, ho⟩
  · obtain ⟨⟨k, k8, hk⟩, h0⟩ := hp a
    rw [ho, zb2_some]
    have ep : p = (nI 1, p.2) := Prod.ext a rfl
    rw [ep]
    rcases M_behind (h := h) (m := m) (d1 := d1) (d2 := d2) hkd hf hn hn0 h4 hk k8 h0 with ⟨x, y⟩ | ⟨x, g', y⟩
    · refine Or.inl ⟨x, ?_⟩
      simp only [g_Model_doStep_105, n1, if_false, M_cv, y, bind_some', M_11, n0, if_true]
    · refine Or.inr ⟨Or.inl x, nI 1, g', Or.inr rfl, ?_⟩
      rw [x]
      simp only [g_Model_doStep_105, n1, if_false, M_cv, y, bind_some', M_11]
  · rw [ho, zb2_some]
    have e : aFin fm kd n p = p := if_neg (by rw [a]; exact n3ne)
    rw [e]
    obtain ⟨g', y⟩ := M_behindW (h := h) (m := m) (d1 := d1) (d2 := d2) hkd hf hn hn0 h4 hk k8
    refine Or.inr ⟨Or.inl a, nI 1, g', Or.inr rfl, ?_⟩
    rw [a]
    simp only [g_Model_doStep_105, n1, if_false, M_cv, y, bind_some', M_11]
  · rw [ho, zb2_some]
    have e : aFin fm kd n p = p := if_neg (by rw [a]; exact n5ne)
    rw [e]
    refine Or.inr ⟨Or.inr a, nI 0, g, Or.inl rfl, ?_⟩
    rw [a]
    simp only [g_Model_doStep_105, n0, if_true]
end MSW
