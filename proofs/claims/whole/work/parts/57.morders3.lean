/-! ALL ORDERS, THE MODEL: from each state, and all -/
section BCO
variable {kd n : Nat} {nw : Nat → Int32 → Nat} {go : Nat → Int32 → Nat → Nat}
def bCodes (kd n : Nat) (nw : Nat → Int32 → Nat) (go : Nat → Int32 → Nat → Nat) (s : Nat) : Nat → Nat → bT → bT
  | 0, _, b => b
  | d + 1, c, b => bCodes kd n nw go s d (c + 1) (if c % 100 < 8 then bTry kd n nw go b s (c / 100) (c % 100) else b)
theorem bCodes_add {s : Nat} : ∀ (a d c : Nat) (b : bT), bCodes kd n nw go s (a + d) c b = bCodes kd n nw go s d (c + a) (bCodes kd n nw go s a c b) := by
  intro a
  induction a with
  | zero => intro d c b; rw [Nat.zero_add]; rfl
  | succ a ih =>
    intro d c b
    rw [show a + 1 + d = (a + d) + 1 by omega]
    show bCodes kd n nw go s (a + d) (c + 1) _ = bCodes kd n nw go s d (c + (a + 1)) (bCodes kd n nw go s a (c + 1) _)
    rw [ih, show c + 1 + a = c + (a + 1) by omega]
theorem bCodes_row {s sort : Nat} : ∀ (d i : Nat) (b : bT), i + d ≤ 8 → bCodes kd n nw go s d (100 * sort + i) b = bRow kd n nw go s sort d i b := by
  intro d
  induction d with
  | zero => intro i b _; rfl
  | succ d ih =>
    intro i b h
    show bCodes kd n nw go s d (100 * sort + i + 1) (if (100 * sort + i) % 100 < 8 then bTry kd n nw go b s ((100 * sort + i) / 100) ((100 * sort + i) % 100) else b) = bRow kd n nw go s sort d (i + 1) (bTry kd n nw go b s sort i)
    rw [show (100 * sort + i) % 100 = i by omega, show (100 * sort + i) / 100 = sort by omega, if_pos (by omega)]
    exact ih (i + 1) _ (by omega)
theorem bCodes_no {s sort : Nat} : ∀ (d i : Nat) (b : bT), 8 ≤ i → i + d ≤ 100 → bCodes kd n nw go s d (100 * sort + i) b = b := by
  intro d
  induction d with
  | zero => intro i b _ _; rfl
  | succ d ih =>
    intro i b h h2
    show bCodes kd n nw go s d (100 * sort + i + 1) (if (100 * sort + i) % 100 < 8 then bTry kd n nw go b s ((100 * sort + i) / 100) ((100 * sort + i) % 100) else b) = b
    rw [if_neg (by omega)]
    exact ih (i + 1) b (by omega) (by omega)
theorem bCodes_sort {s : Nat} (sort d : Nat) (b : bT) : bCodes kd n nw go s (100 + d) (100 * sort) b = bCodes kd n nw go s d (100 * (sort + 1)) (bRow kd n nw go s sort 8 0 b) := by
  rw [bCodes_add 100 d, show (100 : Nat) = 8 + 92 by rfl, bCodes_add 8 92]
  have e1 := bCodes_row (kd := kd) (n := n) (nw := nw) (go := go) (s := s) (sort := sort) 8 0 b (by omega)
  have e2 := bCodes_no (kd := kd) (n := n) (nw := nw) (go := go) (s := s) (sort := sort) 92 8 (bRow kd n nw go s sort 8 0 b) (by omega) (by omega)
  rw [Nat.add_zero] at e1
  show bCodes kd n nw go s d (100 * sort + 100) (bCodes kd n nw go s 92 (100 * sort + 8) (bCodes kd n nw go s 8 (100 * sort) b)) = _
  rw [e1, e2]
  rfl
theorem bCodes_exp (b : bT) (s : Nat) : bCodes kd n nw go s 400 0 b = bExp kd n nw go b s := by
  have e0 := bCodes_sort (kd := kd) (n := n) (nw := nw) (go := go) (s := s) 0 300 b
  have e1 := bCodes_sort (kd := kd) (n := n) (nw := nw) (go := go) (s := s) 1 200 (bRow kd n nw go s 0 8 0 b)
  have e2 := bCodes_sort (kd := kd) (n := n) (nw := nw) (go := go) (s := s) 2 100 (bRow kd n nw go s 1 8 0 (bRow kd n nw go s 0 8 0 b))
  have e3 := bCodes_sort (kd := kd) (n := n) (nw := nw) (go := go) (s := s) 3 0 (bRow kd n nw go s 2 8 0 (bRow kd n nw go s 1 8 0 (bRow kd n nw go s 0 8 0 b)))
  exact e0.trans (e1.trans (e2.trans e3))
theorem bCodes_big {s : Nat} : ∀ (d c : Nat) (b : bT), bBig b = true → bCodes kd n nw go s d c b = b := by
  intro d
  induction d with
  | zero => intro c b _; rfl
  | succ d ih =>
    intro c b h
    show bCodes kd n nw go s d (c + 1) (if c % 100 < 8 then bTry kd n nw go b s (c / 100) (c % 100) else b) = b
    rw [bTry_big h]
    have : (if c % 100 < 8 then b else b) = b := by split <;> rfl
    rw [this]
    exact ih (c + 1) b h
end BCO
section MAL
variable {m0 : Nat → Int32} {n kd : Nat} {nw : Nat → Int32 → Nat} {go : Nat → Int32 → Nat → Nat}
theorem MOB.m25 {b : bT} {h : zH} (M : MOB m0 n kd b h) : zrI h 670 7 25 = some (nI (mSz b)) := by
  obtain ⟨m, r, F, A, B, C, L, a1, -, -, a4, -⟩ := M
  rw [MO_rd h m (by unfold mosc; omega) a1, a4]
theorem MOB.cv {b : bT} {h : zH} (M : MOB m0 n kd b h) {α : Type} (o : Option α) : zcv h 670 7 o = o := by
  obtain ⟨m, r, F, A, B, C, L, a1, -⟩ := M
  exact MO_cv h m a1 o
theorem FRM.MU {h h' : zH} (H : MU n nw go h) (q : FRM h h') : MU n nw go h' := H.fr (q _ (by omega) (by omega) (by omega)) (q _ (by omega) (by omega) (by omega))
theorem M_codes (h4 : m0 4 = nI n) (hkd : kd < 9) (n6 : n ≤ 6) (hn0 : 0 < n) (hgo : ∀ hh, hh < n → ∀ l i, i < nw hh l → go hh l i < 6) (hnw : ∀ hh, hh < n → ∀ l, nw hh l ≤ 270) {s : Nat} : ∀ (d c f : Nat) (b : bT) (h : zH), 400 - c = d → c ≤ 400 → d < f → MOB m0 n kd b h → bOK kd n b → s < bSz b → MU n nw go h → ∃ h', zloop (g_Model_goFrom_2 670 (nI s)) f (nI c, h) = some h' ∧ MOB m0 n kd (bCodes kd n nw go s d c b) h' ∧ FRM h h' := by
  intro d
  induction d with
  | zero =>
    intro c f b h hd hc hf M K hs H
    obtain ⟨f, rfl⟩ : ∃ k, f = k + 1 := ⟨f - 1, by omega⟩
    refine ⟨h, ?_, M, fun _ _ _ _ => rfl⟩
    show g_Model_goFrom_2 670 (nI s) _ (nI c, h) = _
    have c1 : (400 ≤ c) = True := eq_true (by omega)
    simp (disch := omega) only [g_Model_goFrom_2, nI_le_iff, c1, if_true]
  | succ d ih =>
    intro c f b h hd hc hf M K hs H
    obtain ⟨f, rfl⟩ : ∃ k, f = k + 1 := ⟨f - 1, by omega⟩
    have c1 : (400 ≤ c) = False := eq_false (by omega)
    have h150 := K.2.1
    by_cases z : bBig b = true
    · rw [bCodes_big _ _ _ z]
      refine ⟨h, ?_, M, fun _ _ _ _ => rfl⟩
      have e25 := M.m25
      have ez : mSz b = 151 := if_pos z
      rw [ez] at e25
      show g_Model_goFrom_2 670 (nI s) _ (nI c, h) = _
      have c2 : (151 ≤ 151) = True := by simp
      simp (disch := omega) only [g_Model_goFrom_2, nI_le_iff, c1, if_false, e25, bind_some', c2, if_true]
    · have zb : bBig b = false := by simpa using z
      have ez : mSz b = bSz b := if_neg z
      by_cases c8 : c % 100 < 8
      · have ec : c = 100 * (c / 100) + c % 100 := by omega
        obtain ⟨m, r, F, A, B, C, L, X⟩ := M
        obtain ⟨h1, e1, M1, q1⟩ := M_try X h4 K zb hkd n6 hn0 H hgo hnw hs (show c / 100 < 4 by omega) c8 (zloop (g_Model_goFrom_2 670 (nI s)) f)
        rw [← ec] at e1
        obtain ⟨K1, z1⟩ := K.try (sort := c / 100) (i := c % 100) (go := go) hs n6 hn0 hnw
        obtain ⟨h2, e2, M2, q2⟩ := ih (c + 1) f _ h1 (by omega) (by omega) (by omega) M1 K1 (by omega) (FRM.MU H q1)
        refine ⟨h2, ?_, ?_, q1.tr q2⟩
        · rw [← e2, ← e1]
          rfl
        · show MOB m0 n kd (bCodes kd n nw go s d (c + 1) (if c % 100 < 8 then bTry kd n nw go b s (c / 100) (c % 100) else b)) h2
          rw [if_pos c8]
          exact M2
      · obtain ⟨h2, e2, M2, q2⟩ := ih (c + 1) f b h (by omega) (by omega) (by omega) M K hs H
        refine ⟨h2, ?_, ?_, q2⟩
        · rw [← e2]
          have e25 := M.m25
          rw [ez] at e25
          have c2 : (151 ≤ bSz b) = False := eq_false (by omega)
          have c3 : (8 ≤ c % 100) = True := eq_true (by omega)
          have er : nI c - nI c / nI 100 * nI 100 = nI (c % 100) := pk_rem (by omega) (by omega) (by omega)
          show g_Model_goFrom_2 670 (nI s) _ (nI c, h) = _
          simp (disch := omega) only [g_Model_goFrom_2, nI_le_iff, c1, if_false, e25, bind_some', c2, er, c3, if_true, nI_add]
        · show MOB m0 n kd (bCodes kd n nw go s d (c + 1) (if c % 100 < 8 then bTry kd n nw go b s (c / 100) (c % 100) else b)) h2
          rw [if_neg c8]
          exact M2
theorem M_goFrom (h4 : m0 4 = nI n) (hkd : kd < 9) (n6 : n ≤ 6) (hn0 : 0 < n) (hgo : ∀ hh, hh < n → ∀ l i, i < nw hh l → go hh l i < 6) (hnw : ∀ hh, hh < n → ∀ l, nw hh l ≤ 270) {s : Nat} {b : bT} {h : zH} (M : MOB m0 n kd b h) (K : bOK kd n b) (hs : s < bSz b) (H : MU n nw go h) : ∃ h', m_Model_goFrom 670 (nI s) h = some h' ∧ MOB m0 n kd (bExp kd n nw go b s) h' ∧ FRM h h' := by
  have z := zN_big
  obtain ⟨h', e, M', q⟩ := M_codes (s := s) h4 hkd n6 hn0 hgo hnw 400 0 zN b h rfl (by omega) (by omega) M K hs H
  rw [bCodes_exp] at M'
  exact ⟨h', e, M', q⟩
theorem M_fa51 (h4 : m0 4 = nI n) (hkd : kd < 9) (n6 : n ≤ 6) (hn0 : 0 < n) (hgo : ∀ hh, hh < n → ∀ l i, i < nw hh l → go hh l i < 6) (hnw : ∀ hh, hh < n → ∀ l, nw hh l ≤ 270) : ∀ (d s f : Nat) (b : bT) (h : zH), 150 - s = d → s ≤ 150 → d < f → MOB m0 n kd b h → bOK kd n b → MU n nw go h → ∃ h', zloop (g_Model_findAll_51 670) f (nI s, h) = some (if bBig (bRun kd n nw go d s b) = true then -4 else nI 0, h') ∧ MOB m0 n kd (bRun kd n nw go d s b) h' ∧ FRM h h' := by
  have fin : ∀ (s : Nat) (b : bT) (h : zH) (k : (Int32 × zH) → Option (Int32 × zH)), s ≤ 150 → MOB m0 n kd b h → bOK kd n b → (bBig b = true ∨ bSz b ≤ s) → g_Model_findAll_51 670 k (nI s, h) = some (if bBig b = true then -4 else nI 0, h) := by
    intro s b h k hs M K q
    have h150 := K.2.1
    have e25 := M.m25
    by_cases z : bBig b = true
    · have ez : mSz b = 151 := if_pos z
      rw [ez] at e25
      rw [if_pos z]
      have c1 : (151 ≤ s) = False := eq_false (by omega)
      have c2 : (151 ≤ 151) = True := by simp
      simp (disch := omega) only [g_Model_findAll_51, nI_le_iff, e25, bind_some', c1, if_false, c2, if_true]
    · have ez : mSz b = bSz b := if_neg z
      rw [ez] at e25
      rw [if_neg z]
      have c1 : (bSz b ≤ s) = True := eq_true (q.resolve_left z)
      have c2 : (bSz b = 151) = False := eq_false (by omega)
      simp (disch := omega) only [g_Model_findAll_51, nI_le_iff, e25, bind_some', c1, if_true, nI_eq_iff, c2, if_false]
  intro d
  induction d with
  | zero =>
    intro s f b h hd hs hf M K H
    obtain ⟨f, rfl⟩ : ∃ k, f = k + 1 := ⟨f - 1, by omega⟩
    exact ⟨h, fin s b h _ hs M K (Or.inr (by have := K.2.1; omega)), M, fun _ _ _ _ => rfl⟩
  | succ d ih =>
    intro s f b h hd hs hf M K H
    obtain ⟨f, rfl⟩ : ∃ k, f = k + 1 := ⟨f - 1, by omega⟩
    by_cases q : bBig b = true ∨ bSz b ≤ s
    · have er : bRun kd n nw go (d + 1) s b = b := by
        rcases q with q | q
        · exact bRun_big _ _ _ q
        · exact if_neg (by omega)
      rw [er]
      exact ⟨h, fin s b h _ hs M K q, M, fun _ _ _ _ => rfl⟩
    · have z : ¬ bBig b = true := fun w => q (Or.inl w)
      have hs' : s < bSz b := by
        rcases Nat.lt_or_ge s (bSz b) with w | w
        · exact w
        · exact absurd (Or.inr w) q
      have h150 := K.2.1
      have ez : mSz b = bSz b := if_neg z
      have zb : bBig b = false := by simpa using z
      have e25 := M.m25
      rw [ez] at e25
      have cv := fun {α : Type} (o : Option α) => M.cv (α := α) o
      obtain ⟨m, r, F, A, B, C, L, X⟩ := id M
      obtain ⟨a1, a2, a3, a4, a5, a6, a7, a8, a9, a10, a11, a12⟩ := id X
      have eF := ((a12 zb).1 s hs').1
      have r20 := (Mo_rf a1).2.1
      have l87 : zaI h 683 (nI (91 * s + 87)) = some (bG b s 120) := by rw [zaI, zA32_of a7 (by omega) (by omega), eF 87 (by omega), ph_rd pm_c.2.2.2.1]
      have c1 : (bSz b ≤ s) = False := eq_false (by omega)
      have c2 : (151 ≤ bSz b) = False := eq_false (by omega)
      have er : bRun kd n nw go (d + 1) s b = bRun kd n nw go d (s + 1) (if bG b s 120 = nI 1 then b else bExp kd n nw go b s) := if_pos hs'
      rcases (K.2.2.1 s hs').1.2.2.2.2.2.2.2.1 with w | w
      · have ne : ¬ bG b s 120 = nI 1 := by rw [w]; decide
        rw [if_neg ne] at er
        obtain ⟨h1, e1, M1, q1⟩ := M_goFrom h4 hkd n6 hn0 hgo hnw M K hs' H
        obtain ⟨K1, z1⟩ := bOK.exp (go := go) (s := s) n6 hn0 hnw K hs'
        obtain ⟨h2, e2, M2, q2⟩ := ih (s + 1) f _ h1 (by omega) (by omega) (by omega) M1 K1 (FRM.MU H q1)
        rw [er]
        refine ⟨h2, ?_, M2, q1.tr q2⟩
        rw [← e2]
        show g_Model_findAll_51 670 _ (nI s, h) = _
        simp (disch := omega) only [g_Model_findAll_51, nI_le_iff, e25, bind_some', c1, c2, if_false, r20, pk_mul, nI_add, l87, eq_true w, if_true, cv, e1]
      · rw [if_pos w] at er
        obtain ⟨h2, e2, M2, q2⟩ := ih (s + 1) f b h (by omega) (by omega) (by omega) M K H
        rw [er]
        refine ⟨h2, ?_, M2, q2⟩
        rw [← e2]
        have w0 : (bG b s 120 = 0) = False := eq_false (by rw [w]; decide)
        show g_Model_findAll_51 670 _ (nI s, h) = _
        simp (disch := omega) only [g_Model_findAll_51, nI_le_iff, e25, bind_some', c1, c2, if_false, r20, pk_mul, nI_add, l87, w0]
theorem M_fa13 {h : zH} {m : Nat → Int32} (hm : h 670 = MO m) (x1 : Int32) : ∀ (d j f : Nat) (L : Nat → Int32), 22801 - j = d → j ≤ 22801 → d < f → zloop (g_Model_findAll_13 670 x1) f (nI j, zup h 687 (zI1 22801 L)) = g_Model_findAll_13 670 x1 (fun _ => none) (nI 22801, zup h 687 (zI1 22801 (fun k => if j ≤ k ∧ k < 22801 then nI 0 else L k))) := by
  intro d
  induction d with
  | zero =>
    intro j f L hd hj hf
    obtain ⟨f, rfl⟩ : ∃ k, f = k + 1 := ⟨f - 1, by omega⟩
    obtain rfl : j = 22801 := by omega
    have e : (fun k => if 22801 ≤ k ∧ k < 22801 then nI 0 else L k) = L := funext fun k => if_neg (by omega)
    rw [e]
    show g_Model_findAll_13 670 x1 _ (nI 22801, zup h 687 (zI1 22801 L)) = _
    have c : (22801 ≤ 22801) = True := by simp
    simp (disch := omega) only [g_Model_findAll_13, nI_le_iff, c, if_true]
  | succ d ih =>
    intro j f L hd hj hf
    obtain ⟨f, rfl⟩ : ∃ k, f = k + 1 := ⟨f - 1, by omega⟩
    have c : (22801 ≤ j) = False := eq_false (by omega)
    obtain ⟨-, -, -, -, -, r24⟩ := Mo_rf (h := zup h 687 (zI1 22801 L)) (m := m) (by rw [zup_ne (by omega)]; exact hm)
    have st : zS32 2 (zup h 687 (zI1 22801 L)) 687 (nI j) (nI 0) = some (zup h 687 (zI1 22801 (upd L j (nI 0)))) := zS32_st (by omega) (by omega)
    have e1 : zloop (g_Model_findAll_13 670 x1) (f + 1) (nI j, zup h 687 (zI1 22801 L)) = zloop (g_Model_findAll_13 670 x1) f (nI (j + 1), zup h 687 (zI1 22801 (upd L j (nI 0)))) := by
      show g_Model_findAll_13 670 x1 (zloop _ f) (nI j, zup h 687 (zI1 22801 L)) = _
      simp (disch := omega) only [g_Model_findAll_13, nI_le_iff, c, if_false, r24, bind_some', zsZ, nar_0, st, nI_add]
    rw [e1, ih (j + 1) f _ (by omega) (by omega) (by omega)]
    refine congrArg (fun z => g_Model_findAll_13 670 x1 (fun _ => none) (nI 22801, zup h 687 (zI1 22801 z))) (funext fun k => ?_)
    unfold upd
    by_cases e1 : k = j
    · rw [if_neg (by omega), if_pos e1, if_pos (by omega)]
    · by_cases e2 : j ≤ k ∧ k < 22801
      · rw [if_pos (by omega), if_pos e2]
      · rw [if_neg (by omega), if_neg e1, if_neg e2]
/-- what a search needs of the model's arrays -/
def MSC (m : Nat → Int32) (h : zH) : Prop := h 670 = MO m ∧ cScr h
theorem M_findAll {h : zH} {m : Nat → Int32} (S : MSC m h) (h4 : m 4 = nI n) (hkd : kd < 9) (n6 : n ≤ 6) (hn0 : 0 < n) (hgo : ∀ hh, hh < n → ∀ l i, i < nw hh l → go hh l i < 6) (hnw : ∀ hh, hh < n → ∀ l, nw hh l ≤ 270) (H : MU n nw go h) : ∃ h', m_Model_findAll 670 (nI kd) h = some (if bBig (bfs kd n nw go) = true then -4 else nI 0, h') ∧ FRM h h' ∧ ((n ≤ 4 ∧ MOB m n kd (bfs kd n nw go) h') ∨ (4 < n ∧ h' = h)) := by
  have zz := zN_big
  obtain ⟨hm, ⟨r, h5, hr⟩, ⟨F, hF⟩, ⟨A, hA⟩, ⟨B, hB⟩, ⟨C, hC⟩, L, hL⟩ := S
  have e4 : zrI h 670 7 4 = some (nI n) := by rw [MO_rd h m (by unfold mosc; omega) hm, h4]
  by_cases c4 : n ≤ 4
  · have h4' : (n ≤ 4) = True := eq_true c4
    have fa := M_fa13 (h := h) hm (nI kd) 22801 0 zN L rfl (by omega) (by omega)
    rw [zup_self hL] at fa
    have eL0 : (fun k => if 0 ≤ k ∧ k < 22801 then nI 0 else L k) = fun k => if k < 22801 then nI 0 else L k := funext fun k => by
      by_cases q : k < 22801
      · rw [if_pos ⟨Nat.zero_le _, q⟩, if_pos q]
      · rw [if_neg (by omega), if_neg q]
    rw [eL0] at fa
    have c2 : (22801 ≤ 22801) = True := by simp
    have m1 : (zup h 687 (zI1 22801 (fun k => if k < 22801 then nI 0 else L k))) 670 = MO m := by rw [zup_ne (by omega)]; exact hm
    have m5 : (zup h 687 (zI1 22801 (fun k => if k < 22801 then nI 0 else L k))) 675 = zI32 91 r := by rw [zup_ne (by omega)]; exact h5
    have q1 : ∀ k, k ≠ 687 → (zup h 687 (zI1 22801 (fun k => if k < 22801 then nI 0 else L k))) k = h k := fun k hk => zup_ne hk
    have l1 : (zup h 687 (zI1 22801 (fun k => if k < 22801 then nI 0 else L k))) 687 = zI1 22801 (fun k => if k < 22801 then nI 0 else L k) := zup_eq _ _ _
    generalize zup h 687 (zI1 22801 (fun k => if k < 22801 then nI 0 else L k)) = h1 at fa m1 m5 q1 l1
    have bg := M_begin (h := h1) (m := m) (r := r) hkd (rfl : fmo kd = fmo kd) n6 h4 hr
    rw [mh_self m1 m5] at bg
    have cv1 : ∀ {α : Type} (o : Option α), zcv h1 670 7 o = o := fun o => MO_cv h1 m m1 o
    have g2 : mg h1 m (fmo kd) n kd (m 11) 0 0 (g0 (fmo kd)) 670 = MO (ms m kd (m 11) 0 0 (g0 (fmo kd))) := M_670
    have g5 : mg h1 m (fmo kd) n kd (m 11) 0 0 (g0 (fmo kd)) 675 = zI32 91 (ph (fmo kd) n (g0 (fmo kd))) := M_675
    have q2 : ∀ k, k ≠ 670 → k ≠ 675 → mg h1 m (fmo kd) n kd (m 11) 0 0 (g0 (fmo kd)) k = h1 k := fun k a b => mh_ne a b
    generalize mg h1 m (fmo kd) n kd (m 11) 0 0 (g0 (fmo kd)) = h2 at bg g2 g5 q2
    have w3 : zwI h2 670 7 25 (nI 0) = some (zup h2 670 (MO (upd (ms m kd (m 11) 0 0 (g0 (fmo kd))) 25 (nI 0)))) := MO_wr _ _ _ (by unfold mosc; omega) g2
    have g3 : (zup h2 670 (MO (upd (ms m kd (m 11) 0 0 (g0 (fmo kd))) 25 (nI 0)))) 670 = MO (upd (ms m kd (m 11) 0 0 (g0 (fmo kd))) 25 (nI 0)) := zup_eq _ _ _
    have q3 : ∀ k, k ≠ 670 → (zup h2 670 (MO (upd (ms m kd (m 11) 0 0 (g0 (fmo kd))) 25 (nI 0)))) k = h2 k := fun k hk => zup_ne hk
    generalize zup h2 670 (MO (upd (ms m kd (m 11) 0 0 (g0 (fmo kd))) 25 (nI 0))) = h3 at w3 g3 q3
    have cv3 : ∀ {α : Type} (o : Option α), zcv h3 670 7 o = o := fun o => MO_cv h3 _ g3 o
    obtain ⟨h5', k1, k3, k4, k5, k6, k7⟩ := M_ks (h := h3) (F := F) (A := A) (B := B) (z := 0) g3 (upd_eq _ _ _) (by omega) (show h3 675 = zI32 91 (ph (fmo kd) n (g0 (fmo kd))) by rw [q3 _ (by omega)]; exact g5) (by rw [q3 _ (by omega), q2 _ (by omega) (by omega), q1 _ (by omega)]; exact hF) (by rw [q3 _ (by omega), q2 _ (by omega) (by omega), q1 _ (by omega)]; exact hA) (by rw [q3 _ (by omega), q2 _ (by omega) (by omega), q1 _ (by omega)]; exact hB) (-1) (nI 0)
    have q5 : FRM h h5' := fun k x y z => by rw [k7 k x (by omega) (by omega) (by omega), q3 k x, q2 k x y, q1 k (by omega)]
    have bb : bBig (bBeg kd n) = false := by
      show decide (4 < n) = false
      simp; omega
    have M0 : MOB m n kd (bBeg kd n) h5' := by
      refine ⟨_, ph (fmo kd) n (g0 (fmo kd)), _, _, _, C, (fun k => if k < 22801 then nI 0 else L k), k3, ?_, ?_, ?_, by rw [k7 _ (by omega) (by omega) (by omega) (by omega), q3 _ (by omega)]; exact g5, fun k hk => ph_hi hk, k4, k5, k6, by rw [k7 _ (by omega) (by omega) (by omega) (by omega), q3 _ (by omega), q2 _ (by omega) (by omega), q1 _ (by omega)]; exact hC, by rw [k7 _ (by omega) (by omega) (by omega) (by omega), q3 _ (by omega), q2 _ (by omega) (by omega)]; exact l1, fun _ => ⟨fun s hs => ?_, fun s t hs ht => ?_⟩⟩
      · intro j x1 x2 x3 x4 x5
        rw [upd_ne x5, upd_ne x5]
        unfold ms
        rw [if_neg x1, if_neg x2, if_neg x3, if_neg x4]
      · rw [upd_ne (by omega), upd_ne (by omega)]
        rfl
      · rw [upd_eq]
        unfold mSz
        rw [if_neg (by rw [bb]; simp)]
        rfl
      · have hs : s < 1 := hs
        obtain rfl : s = 0 := by omega
        refine ⟨fun k hk => ?_, upd_eq _ _ _, upd_eq _ _ _⟩
        unfold kF
        rw [if_pos (by omega)]
        show ph (fmo kd) n (g0 (fmo kd)) _ = ph (fmo kd) n (g0 (fmo kd)) k
        congr 1; omega
      · refine Or.inr ⟨fun ⟨k, hk, _⟩ => absurd hk (Nat.not_lt_zero k), ?_⟩
        show (if 151 * s + t < 22801 then nI 0 else _) = _
        rw [if_pos (by omega)]
    obtain ⟨h6, e6, M6, q6⟩ := M_fa51 (nw := nw) (go := go) h4 hkd n6 hn0 hgo hnw 150 0 zN (bBeg kd n) h5' rfl (by omega) (by omega) M0 (bOK.beg hn0) (FRM.MU H q5)
    refine ⟨h6, ?_, q5.tr q6, Or.inl ⟨c4, M6⟩⟩
    have e6' : zloop (g_Model_findAll_51 670) zN (nI 0, h5') = some (if bBig (bfs kd n nw go) = true then -4 else nI 0, h6) := e6
    simp (disch := omega) only [m_Model_findAll, e4, bind_some', nI_le_iff, h4', if_true, fa, g_Model_findAll_13, c2, cv1, bg, w3, cv3, k1]
    exact e6'
  · have h4' : (n ≤ 4) = False := eq_false c4
    have eb : bBig (bfs kd n nw go) = true := by
      have : bBig (bBeg kd n) = true := by
        show decide (4 < n) = true
        simp; omega
      unfold bfs
      rw [bRun_big _ _ _ this]
      exact this
    rw [if_pos eb]
    refine ⟨h, ?_, fun _ _ _ _ => rfl, Or.inr ⟨by omega, rfl⟩⟩
    simp (disch := omega) only [m_Model_findAll, e4, bind_some', nI_le_iff, h4', if_false]
end MAL
