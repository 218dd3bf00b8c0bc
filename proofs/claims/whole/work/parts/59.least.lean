/-! ALL ORDERS, BOTH SIDES: the least -/
noncomputable def fsS (b : bT) (want : Int32) : Nat → Nat → Option Nat
  | 0, _ => none
  | d + 1, s => if bG b s 120 = nI 1 ∧ ovN (bG b s) = want then some s else fsS b want d (s + 1)
theorem fsS_lt {b : bT} {want : Int32} : ∀ (d s t : Nat), fsS b want d s = some t → t < s + d := by
  intro d
  induction d with
  | zero => intro s t h; cases h
  | succ d ih =>
    intro s t h
    unfold fsS at h
    split at h
    · have := Option.some.inj h; omega
    · have := ih (s + 1) t h; omega
section LEC
variable {h : zH} {o kd n : Nat} {b : bT} {sp : Nat → Int32} {ex : Int32}
theorem s_first_l (O : ORB o kd b sp ex h) (K : bOK kd n b) (want : Int32) : ∀ (d s f : Nat), bSz b - s = d → s ≤ bSz b → d < f → zloop (g_Orders_firstSaying_2 o want h) f (nI s) = some (fndI (fsS b want d s)) := by
  obtain ⟨-, -, r2, -, -, -, -, -, -, -, -, r11, -, -⟩ := OE_rd O.1
  have h150 := K.2.1
  intro d
  induction d with
  | zero =>
    intro s f hd hs hf
    obtain ⟨f, rfl⟩ : ∃ k, f = k + 1 := ⟨f - 1, by omega⟩
    show g_Orders_firstSaying_2 o want h _ (nI s) = _
    have c : (bSz b ≤ s) = True := eq_true (by omega)
    simp (disch := omega) only [g_Orders_firstSaying_2, r11, bind_some', nI_le_iff, c, if_true]
    rfl
  | succ d ih =>
    intro s f hd hs hf
    obtain ⟨f, rfl⟩ : ∃ k, f = k + 1 := ⟨f - 1, by omega⟩
    show g_Orders_firstSaying_2 o want h (zloop (g_Orders_firstSaying_2 o want h) f) (nI s) = _
    have c : (bSz b ≤ s) = False := eq_false (by omega)
    obtain ⟨eR, eG⟩ := O.row (s := s) (by omega) h150
    have e120 : zaI h (o + 2 + s) (nI 120) = some (bG b s 120) := zA32_of eG (by omega) (by omega)
    have io := s_isOver eG (K.2.2.1 s (by omega)).1.2.2.1.1
    have IH := ih (s + 1) f (by omega) (by omega) (by omega)
    by_cases z : bG b s 120 = nI 1
    · by_cases z2 : ovN (bG b s) = want
      · simp (disch := omega) only [g_Orders_firstSaying_2, r11, bind_some', nI_le_iff, c, if_false, r2, eR, e120, eq_true z, if_true, io, eq_true z2]
        unfold fsS
        rw [if_pos ⟨z, z2⟩]
        rfl
      · simp (disch := omega) only [g_Orders_firstSaying_2, r11, bind_some', nI_le_iff, c, if_false, r2, eR, e120, eq_true z, if_true, io, eq_false z2, nI_add, IH]
        conv => rhs; unfold fsS
        rw [if_neg (fun w => z2 w.2)]
    · simp (disch := omega) only [g_Orders_firstSaying_2, r11, bind_some', nI_le_iff, c, if_false, r2, eR, e120, eq_false z, nI_add, IH]
      conv => rhs; unfold fsS
      rw [if_neg (fun w => z w.1)]
theorem s_first (O : ORB o kd b sp ex h) (K : bOK kd n b) (want : Int32) : m_Orders_firstSaying o want h = some (fndI (fsS b want (bSz b) 0)) := by
  have z := zN_big
  have := K.2.1
  exact s_first_l O K want (bSz b) 0 zN rfl (by omega) (by omega)
theorem s_depth (O : ORB o kd b sp ex h) (K : bOK kd n b) {t : Nat} (ht : t < bSz b) : m_Orders_stepsTo o (nI t) h = some (nI (bDp b t)) := by
  obtain ⟨-, -, -, -, -, -, r6, -, -, -, -, r11, -, -⟩ := OE_rd O.1
  have h150 := K.2.1
  obtain ⟨-, -, -, -, -, -, -, -, ⟨g8, b8, c8⟩, -⟩ := O
  have c : (bSz b ≤ t) = False := eq_false (by omega)
  have l : zaI h (o + 155) (nI t) = some (nI (bDp b t)) := by rw [zaI, zA32_of b8 (by omega) (by omega), c8 t ht]
  simp (disch := omega) only [m_Orders_stepsTo, nI_lt0, if_false, r11, bind_some', nI_le_iff, c, r6, l]
end LEC
section LEM
variable {h hM : zH} {o kd n : Nat} {b : bT} {sp m0 : Nat → Int32} {ex : Int32}
/-- the way back to a step, both sides -/
theorem s_back (O : ORB o kd b sp ex h) (K : bOK kd n b) (M : MOB m0 n kd b hM) (hb : bBig b = false) {i : Nat} : ∀ (u f f' : Nat), u < bSz b → i < bDp b u → u < f → u < f' → ∃ r, zloop (g_Orders_stepOnTheWayTo_11 o (nI i) h) f (nI u, nI (bDp b u - 1)) = some r ∧ zloop (g_Model_least_156 670 (nI i) hM) f' (nI u, nI (bDp b u - 1)) = some (r, hM) := by
  obtain ⟨-, -, -, -, r4, r5, -, -, -, -, -, r11, -, -⟩ := OE_rd O.1
  have h150 := K.2.1
  obtain ⟨-, -, -, -, -, -, ⟨g6, b6, c6⟩, ⟨g7, b7, c7⟩, -⟩ := O
  obtain ⟨m, r, F, A, B, C, L, a1, a2, a3, a4, a5, a6, a7, a8, a9, a10, a11, a12⟩ := M
  obtain ⟨a12, -⟩ := a12 hb
  obtain ⟨-, -, r21, r22, -⟩ := Mo_rf a1
  intro u
  induction u using Nat.strongRecOn with
  | ind u ih =>
    intro f f' hu hi hf hf'
    obtain ⟨f, rfl⟩ : ∃ k, f = k + 1 := ⟨f - 1, by omega⟩
    obtain ⟨f', rfl⟩ : ∃ k, f' = k + 1 := ⟨f' - 1, by omega⟩
    have dpu := (K.2.2.1 u hu).2.2
    have lC : zaI h (o + 154) (nI u) = some (bCd b u) := by rw [zaI, zA32_of b7 (by omega) (by omega), c7 u hu]
    have lA : zaI h (o + 153) (nI u) = some (bAh b u) := by rw [zaI, zA32_of b6 (by omega) (by omega), c6 u hu]
    have mB : zaI hM 685 (nI u) = some (bCd b u) := by rw [zaI, zA32_of a9 (by omega) (by omega), (a12 u hu).2.2]
    have mA : zaI hM 684 (nI u) = some (bAh b u) := by rw [zaI, zA32_of a8 (by omega) (by omega), (a12 u hu).2.1]
    have cs : (bSz b ≤ u) = False := eq_false (by omega)
    by_cases c : bDp b u - 1 ≤ i
    · refine ⟨bCd b u, ?_, ?_⟩
      · show g_Orders_stepOnTheWayTo_11 o (nI i) h _ (nI u, nI (bDp b u - 1)) = _
        simp (disch := omega) only [g_Orders_stepOnTheWayTo_11, nI_le_iff, eq_true c, if_true, g_Orders_stepOnTheWayTo_42, nI_lt0, if_false, r11, bind_some', cs, r5, lC]
      · show g_Model_least_156 670 (nI i) hM _ (nI u, nI (bDp b u - 1)) = _
        simp (disch := omega) only [g_Model_least_156, nI_le_iff, eq_true c, if_true, r22, bind_some', mB]
    · have u0 : 0 < u := by
        rcases Nat.eq_zero_or_pos u with w | w
        · rw [w, K.2.2.2.2.2.2.1] at c; omega
        · exact w
      obtain ⟨a, al, ae, ad⟩ := K.2.2.2.2.2.2.2 u u0 hu
      have ed : nI (bDp b u - 1) + -1 = nI (bDp b a - 1) := by
        obtain ⟨k, hk⟩ : ∃ k, bDp b u - 1 = k + 1 := ⟨bDp b u - 2, by omega⟩
        rw [hk, pk_m1]
        congr 1; omega
      obtain ⟨r, e1, e2⟩ := ih a al f f' (by omega) (by omega) (by omega) (by omega)
      refine ⟨r, ?_, ?_⟩
      · rw [← e1]
        show g_Orders_stepOnTheWayTo_11 o (nI i) h _ (nI u, nI (bDp b u - 1)) = _
        simp (disch := omega) only [g_Orders_stepOnTheWayTo_11, nI_le_iff, eq_false c, if_false, nI_lt0, r11, bind_some', cs, r4, lA, ae, ed]
      · rw [← e2]
        show g_Model_least_156 670 (nI i) hM _ (nI u, nI (bDp b u - 1)) = _
        simp (disch := omega) only [g_Model_least_156, nI_le_iff, eq_false c, if_false, r21, bind_some', mA, ae, ed]
theorem M_steps (K : bOK kd n b) (M : MOB m0 n kd b hM) (hb : bBig b = false) : ∀ (u f c : Nat), u < bSz b → u < f → zloop (g_Model_stepsTo_4 670 hM) f (nI c, nI u) = some (nI (c + bDp b u)) := by
  have h150 := K.2.1
  obtain ⟨m, r, F, A, B, C, L, a1, a2, a3, a4, a5, a6, a7, a8, a9, a10, a11, a12⟩ := M
  obtain ⟨a12, -⟩ := a12 hb
  obtain ⟨-, -, r21, r22, -⟩ := Mo_rf a1
  intro u
  induction u using Nat.strongRecOn with
  | ind u ih =>
    intro f c hu hf
    obtain ⟨f, rfl⟩ : ∃ k, f = k + 1 := ⟨f - 1, by omega⟩
    have mA : zaI hM 684 (nI u) = some (bAh b u) := by rw [zaI, zA32_of a8 (by omega) (by omega), (a12 u hu).2.1]
    show g_Model_stepsTo_4 670 hM _ (nI c, nI u) = _
    rcases Nat.eq_zero_or_pos u with w | w
    · subst w
      have e : bAh b 0 = -1 := K.2.2.2.2.2.1
      have e2 : bDp b 0 = 0 := K.2.2.2.2.2.2.1
      have n1 : ((-1 : Int32) < 0) = True := by decide
      simp only [g_Model_stepsTo_4, r21, bind_some', mA, e, n1, if_true, e2, Nat.add_zero]
    · obtain ⟨a, al, ae, ad⟩ := K.2.2.2.2.2.2.2 u w hu
      have := ih a al f (c + 1) (by omega) (by omega)
      simp (disch := omega) only [g_Model_stepsTo_4, r21, bind_some', mA, ae, nI_lt0, if_false, nI_add, this, ad]
      congr 2; omega
theorem M_l46 (K : bOK kd n b) (hb : bBig b = false) (h4 : m0 4 = nI n) (n6 : n ≤ 6) {t : Nat} (ht : t < 2) (x3 : Int32) : ∀ (d s f : Nat) (h : zH), bSz b - s = d → s ≤ bSz b → d + 1 < f → MOB m0 n kd b h → ∃ h', zloop (g_Model_least_46 670 (nI t) x3) f (nI s, nI 0, h) = (match fsS b (nI t) d s with
    | some u => g_Model_least_119 670 x3 (nI u) (nI 1) h'
    | none => g_Model_least_119 670 x3 (nI (bSz b)) (nI 0) h') ∧ MOB m0 n kd b h' ∧ FRM h h' := by
  have h150 := K.2.1
  have n1 := nI1_0
  have n0 := nI0_0
  have ez : mSz b = bSz b := if_neg (by rw [hb]; simp)
  intro d
  induction d with
  | zero =>
    intro s f h hd hs hf M
    obtain ⟨f, rfl⟩ : ∃ k, f = k + 1 := ⟨f - 1, by omega⟩
    obtain rfl : s = bSz b := by omega
    refine ⟨h, ?_, M, fun _ _ _ _ => rfl⟩
    have e25 := M.m25
    rw [ez] at e25
    show g_Model_least_46 670 (nI t) x3 _ (nI (bSz b), nI 0, h) = _
    have c : (bSz b ≤ bSz b) = True := eq_true (by omega)
    simp (disch := omega) only [g_Model_least_46, n0, if_true, e25, bind_some', nI_le_iff, c]
    rfl
  | succ d ih =>
    intro s f h hd hs hf M
    obtain ⟨f, rfl⟩ : ∃ k, f = k + 1 := ⟨f - 1, by omega⟩
    have e25 := M.m25
    rw [ez] at e25
    have cv := fun {α : Type} (o : Option α) => M.cv (α := α) o
    obtain ⟨m, r, F, A, B, C, L, X⟩ := id M
    obtain ⟨a1, a2, a3, a4, a5, a6, a7, a8, a9, a10, a11, a12⟩ := id X
    have hm4 : m 4 = nI n := (a2 4 (by omega) (by omega) (by omega) (by omega) (by omega)).trans h4
    have bb := M_bb (g := bG b s) (fm := fmo kd) (n := n) a1 a5 a6 a7 (show s < 151 by omega) ((a12 hb).1 s (by omega)).1
    have emg : zup h 675 (zI32 91 (ph (fmo kd) n (bG b s))) = mg h m (fmo kd) n kd (m 11) (m 8 - bG b s 121) (m 9 - bG b s 122) (bG b s) := by
      unfold mg mh
      rw [ms_self a3, zup_self a1]
    rw [emg] at bb
    have io := M_isOver (h := h) (m := m) (fm := fmo kd) (kd := kd) (fu := m 11) (d1 := m 8 - bG b s 121) (d2 := m 9 - bG b s 122) (g := bG b s) n6 hm4 (K.2.2.1 s (by omega)).1.2.2.1.2.1
    have l87 : zaI (mg h m (fmo kd) n kd (m 11) (m 8 - bG b s 121) (m 9 - bG b s 122) (bG b s)) 675 (nI 87) = some (bG b s 120) := by rw [zaI, zA32_of M_675 (by omega) (by omega), ph_rd pm_c.2.2.2.1]
    have nw := M_now (h := h) (m := m) (fm := fmo kd) (n := n) (kd := kd) (fu := m 11) (d1 := m 8 - bG b s 121) (d2 := m 9 - bG b s 122) (g := bG b s)
    have cvg := fun {α : Type} (o : Option α) => M_cv (h := h) (m := m) (fm := fmo kd) (n := n) (kd := kd) (fu := m 11) (d1 := m 8 - bG b s 121) (d2 := m 9 - bG b s 122) (g := bG b s) o
    have M1 : MOB m0 n kd b (mg h m (fmo kd) n kd (m 11) (m 8 - bG b s 121) (m 9 - bG b s 122) (bG b s)) := ⟨_, _, _, _, _, _, _, X.toM⟩
    have fr1 : FRM h (mg h m (fmo kd) n kd (m 11) (m 8 - bG b s 121) (m 9 - bG b s 122) (bG b s)) := fun k x y _ => mh_ne x y
    generalize mg h m (fmo kd) n kd (m 11) (m 8 - bG b s 121) (m 9 - bG b s 122) (bG b s) = h1 at bb io l87 nw cvg M1 fr1
    have c : (bSz b ≤ s) = False := eq_false (by omega)
    -- a state that does not do
    have no : ¬ (bG b s 120 = nI 1 ∧ ovN (bG b s) = nI t) → g_Model_least_46 670 (nI t) x3 (zloop (g_Model_least_46 670 (nI t) x3) f) (nI s, nI 0, h) = zloop (g_Model_least_46 670 (nI t) x3) f (nI (s + 1), nI 0, h1) := by
      intro q
      by_cases z : bG b s 120 = nI 1
      · have z2 : ¬ ovN (bG b s) = nI t := fun w => q ⟨z, w⟩
        rcases (show t = 0 ∨ t = 1 by omega) with rfl | rfl
        · have ct : (0 = 1) = False := by simp
          simp (disch := omega) only [g_Model_least_46, n0, if_true, e25, bind_some', nI_le_iff, c, if_false, cv, bb, nw, l87, eq_true z, cvg, io, nI_eq_iff, ct, eq_false z2, g_Model_least_99, nI_add]
        · simp (disch := omega) only [g_Model_least_46, n0, if_true, e25, bind_some', nI_le_iff, c, if_false, cv, bb, nw, l87, eq_true z, cvg, io, eq_false z2, g_Model_least_99, nI_add]
      · simp (disch := omega) only [g_Model_least_46, n0, if_true, e25, bind_some', nI_le_iff, c, if_false, cv, bb, nw, l87, eq_false z, g_Model_least_99, nI_add]
    by_cases q : bG b s 120 = nI 1 ∧ ovN (bG b s) = nI t
    · refine ⟨h1, ?_, M1, fr1⟩
      have e1 : fsS b (nI t) (d + 1) s = some s := if_pos q
      rw [e1]
      have st : zloop (g_Model_least_46 670 (nI t) x3) (f + 1) (nI s, nI 0, h) = zloop (g_Model_least_46 670 (nI t) x3) f (nI s, nI 1, h1) := by
        show g_Model_least_46 670 (nI t) x3 (zloop (g_Model_least_46 670 (nI t) x3) f) (nI s, nI 0, h) = _
        rcases (show t = 0 ∨ t = 1 by omega) with rfl | rfl
        · have ct : (0 = 1) = False := by simp
          simp (disch := omega) only [g_Model_least_46, n0, n1, if_true, e25, bind_some', nI_le_iff, c, if_false, cv, bb, nw, l87, eq_true q.1, cvg, io, nI_eq_iff, ct, eq_true q.2, g_Model_least_99, nI_add, Nat.add_zero]
        · simp (disch := omega) only [g_Model_least_46, n0, n1, if_true, e25, bind_some', nI_le_iff, c, if_false, cv, bb, nw, l87, eq_true q.1, cvg, io, eq_true q.2, g_Model_least_99, nI_add, Nat.add_zero]
      rw [st]
      obtain ⟨f, rfl⟩ : ∃ k, f = k + 1 := ⟨f - 1, by omega⟩
      show g_Model_least_46 670 (nI t) x3 _ (nI s, nI 1, h1) = _
      simp only [g_Model_least_46, n1, if_false]
    · obtain ⟨h2, e2, M2, q2⟩ := ih (s + 1) f h1 (by omega) (by omega) (by omega) M1
      refine ⟨h2, ?_, M2, fr1.tr q2⟩
      have e1 : fsS b (nI t) (d + 1) s = fsS b (nI t) d (s + 1) := if_neg q
      rw [e1, ← e2]
      exact no q
end LEM
section LE
variable {h : zH} {n tl w rb ran b : Nat} {X : Nat → Nat → Nat} {Le : Nat → Nat} {Kf : Nat → Int32}
theorem f_least (I : INV n X Le tl w rb ran Kf b h) (x y i : Int32) : ∃ r h1 h2, m_Home_least 0 x y i h = some (r, h1) ∧ m_Model_least 670 x y i h1 = some (r, h2) ∧ INV n X Le tl w rb ran Kf b h2 := by
  have zz := zN_big
  have h0 := I.1.1.1
  obtain ⟨_, m, hm, m1, m4, m6, m19, m27⟩ := id I.1.1
  have w10 := I.1.2.2.2.1.1
  have n1 := nI1_0
  have n0 := nI0_0
  have cvh := fun {α : Type} (o : Option α) => HO_cv h0 o
  have cvm := fun {α : Type} (o : Option α) => MO_cv h m hm o
  have iw := isWay_M hm m6 w10 x
  have wi := M_wX (h := h) (x := y) (b := 1) (hi := 1) rfl (by omega)
  -- the model, when the class answers at once
  have bad : ∀ o : Option Int32, (m_Model_isWay 670 x h = some (nI 0) ∨ m_Model_isWay 670 x h = some (nI 1)) := fun _ => by
    rw [iw]
    split
    · exact Or.inl rfl
    · exact Or.inr rfl
  have bad := bad none
  rcases ix_cases y 2 (by omega) with ⟨z, q⟩ | ⟨t, ht, rfl, z⟩
  · rw [show 1 + 1 = 2 from rfl, z, if_pos rfl] at wi
    refine ⟨-1, h, h, ?_, ?_, I⟩
    · by_cases c : y < 0
      · simp only [m_Home_least, eq_true c, if_true]
      · have c2 : (nI 1 < y) = True := eq_true (Int32.lt_of_lt_of_le ((nI_ltI (by omega) (by omega)).mpr (by omega : 1 < 2)) (q.resolve_left c))
        simp only [m_Home_least, eq_false c, if_false, c2, if_true]
    · rcases bad with e | e
      · simp only [m_Model_least, cvm, e, bind_some', n0, if_true]
      · simp only [m_Model_least, cvm, e, bind_some', n1, if_false, wi, n0, if_true]
  · rw [show 1 + 1 = 2 from rfl, z] at wi
    have e0 : ((some t : Option Nat) = none) = False := by simp
    simp only [e0, if_false] at wi
    have t1 : (1 < t) = False := eq_false (by omega)
    by_cases c : (-1 : Int32) ≤ i
    · obtain ⟨h1, fr1, B1, O1, O2, D⟩ := f_both I x
      obtain ⟨h01, mm, hmm, mm1, mm4, mm6, -⟩ := id B1.1
      have cvm1 := fun {α : Type} (o : Option α) => MO_cv h1 mm hmm o
      have iw1 := isWay_M hmm mm6 w10 x
      have wi1 := M_wX (h := h1) (x := nI t) (b := 1) (hi := 1) rfl (by omega)
      rw [show 1 + 1 = 2 from rfl, z] at wi1
      simp only [e0, if_false] at wi1
      rcases D with ⟨v, h2, cv, e1, e2, I2, tr⟩ | ⟨s, kd, sp, zx, hn, n4, k9, zb, e1, OB, K⟩
      · rcases ex : ix x w with _ | s
        · rw [ex, if_pos rfl] at iw1
          have hv : m_Model_noOrders 670 x h1 = some (-1, h1) := by simp only [m_Model_noOrders, cvm1, iw1, bind_some', n0, if_true]
          rw [hv] at e2
          have hv : v = -1 := (congrArg Prod.fst (Option.some.inj e2)).symm
          subst hv
          obtain rfl := tr ex
          refine ⟨-1, h2, h2, ?_, ?_, I2⟩
          · simp (disch := omega) only [m_Home_least, nI_lt0, nI_lt_iff, t1, if_false, eq_true c, if_true, cvh, e1, zb2_some, cv]
          · simp only [m_Model_least, cvm1, iw1, bind_some', n0, if_true]
        · rw [ex] at iw1
          have e0' : ((some s : Option Nat) = none) = False := by simp
          simp only [e0', if_false] at iw1
          refine ⟨v, h1, h2, ?_, ?_, I2⟩
          · simp (disch := omega) only [m_Home_least, nI_lt0, nI_lt_iff, t1, if_false, eq_true c, if_true, cvh, e1, zb2_some, cv]
          · simp only [m_Model_least, cvm1, iw1, bind_some', n1, if_false, wi1, eq_true c, if_true, e2, zb2_some, cv]
      · obtain ⟨h2, m', hm', m4', e2, fr2, M, B2⟩ := K h1 fun _ _ => rfl
        rw [zx] at iw1
        have e0' : ((some s : Option Nat) = none) = False := by simp
        simp only [e0', if_false] at iw1
        have hnw : ∀ hh, hh < n → ∀ l, nwF X Le hh l ≤ 270 := fun hh q l => hu_nw B1.2.2.1.HU q l
        have KB : bOK kd n (bfs kd n (nwF X Le) (goF X Le)) := bfs_ok (go := goF X Le) (by omega) hn hnw
        revert OB M KB zb
        generalize bfs kd n (nwF X Le) (goF X Le) = B
        intro zb OB M KB
        have h150 := KB.2.1
        have fs := s_first OB KB (nI t)
        obtain ⟨h3, e3, M3, q3⟩ := M_l46 KB zb m4' (by omega) ht i (bSz B) 0 zN h2 rfl (by omega) (by omega) M
        have I3 : INV n X Le tl w rb ran Kf b h3 := by
          obtain ⟨mq, _, _, _, _, _, _, a1, am, -⟩ := id M
          refine ⟨B1.mod hm' M3 (fr2.tr q3), O1.fr fun k a c => ?_, O2.fr fun k a c => ?_⟩
          · exact (fr2.tr q3) k (by omega) (by omega) (by omega)
          · exact (fr2.tr q3) k (by omega) (by omega) (by omega)
        have q9 := (HO_rd h01).2.2.2.2.2.2.2.2.2.1
        have c1 : ((0 : Int32) ≤ nI 1) = True := by decide
        have c0 : ((0 : Int32) ≤ nI 0) = True := by decide
        have mst : ∀ u, u < bSz B → m_Model_stepsTo 670 (nI u) h3 = some (nI (bDp B u)) := fun u hu => by
          have := M_steps KB M3 zb u zN 0 hu (by omega)
          rw [Nat.zero_add] at this
          exact this
        -- the class goes to its first state
        have cls : ∀ R, g_Home_least_52 0 i (fndI (fsS B (nI t) (bSz B) 0)) h1 = R → m_Home_least 0 x (nI t) i h = R := by
          intro R hR
          rcases (show t = 0 ∨ t = 1 by omega) with rfl | rfl
          · simp (disch := omega) only [m_Home_least, nI_lt0, nI_lt_iff, t1, if_false, eq_true c, if_true, cvh, e1, zb2_some, c1, nI0_0, q9, bind_some', OB.cvo, m_Orders_early, fs]
            exact hR
          · simp (disch := omega) only [m_Home_least, nI_lt0, nI_lt_iff, t1, if_false, eq_true c, if_true, cvh, e1, zb2_some, c1, n1, q9, bind_some', OB.cvo, m_Orders_soon, fs]
            exact hR
        have mdl : m_Model_least 670 x (nI t) i h1 = zloop (g_Model_least_46 670 (nI t) i) zN (nI 0, nI 0, h2) := by
          simp only [m_Model_least, cvm1, iw1, bind_some', n1, if_false, wi1, eq_true c, if_true, e2, zb2_some, c0]
        rcases ef : fsS B (nI t) (bSz B) 0 with _ | u
        · rw [ef] at e3
          refine ⟨-2, h1, h3, cls _ ?_, ?_, I3⟩
          · rw [ef]
            have cm : fndI none = -1 := rfl
            rw [cm]
            simp only [g_Home_least_52, if_true]
          · rw [mdl, e3]
            simp only [g_Model_least_119, n0, if_true]
        · rw [ef] at e3
          have hu : u < bSz B := by have := fsS_lt _ _ _ ef; omega
          have dpu := (KB.2.2.1 u hu).2.2
          have sd := s_depth OB KB hu
          have ms3 := mst u hu
          have cv3 := fun {α : Type} (o : Option α) => M3.cv (α := α) o
          have fu : fndI (some u) = nI u := rfl
          by_cases im : i = -1
          · refine ⟨nI (bDp B u), h1, h3, cls _ ?_, ?_, I3⟩
            · rw [ef, fu]
              simp (disch := omega) only [g_Home_least_52, nI_eqm1, if_false, q9, bind_some', OB.cvo, sd, eq_true im, if_true]
            · rw [mdl, e3]
              have im0 : ((0 : Int32) ≤ i) = False := by rw [im]; decide
              simp only [g_Model_least_119, n1, if_false, cv3, ms3, bind_some', im0]
          · rcases pk_ix i (n := bDp B u) (by omega) with w' | w' | ⟨j, hj, rfl⟩
            · exact absurd (i32_m1 (Int32.not_lt.mpr c) w') im
            · refine ⟨-1, h1, h3, cls _ ?_, ?_, I3⟩
              · rw [ef, fu]
                simp (disch := omega) only [g_Home_least_52, nI_eqm1, if_false, q9, bind_some', OB.cvo, sd, eq_false im, eq_true w', if_true]
              · rw [mdl, e3]
                have im0 : ((0 : Int32) ≤ i) = True := eq_true (Int32.le_trans (nI_pos' (by omega)) w')
                have im1 : (i < nI (bDp B u)) = False := eq_false (Int32.not_lt.mpr w')
                simp only [g_Model_least_119, n1, if_false, cv3, ms3, bind_some', im0, if_true, im1]
            · obtain ⟨r, g1, g2⟩ := s_back OB KB M3 zb u zN zN hu hj (by omega) (by omega)
              have cj : (bDp B u ≤ j) = False := eq_false (by omega)
              have cj2 : (j < bDp B u) = True := eq_true hj
              refine ⟨r, h1, h3, cls _ ?_, ?_, I3⟩
              · rw [ef, fu]
                simp (disch := omega) only [g_Home_least_52, nI_eqm1, if_false, q9, bind_some', OB.cvo, sd, nI_le_iff, cj, m_Orders_stepOnTheWayTo, nI_subn, g1]
              · rw [mdl, e3]
                simp (disch := omega) only [g_Model_least_119, n1, if_false, cv3, ms3, bind_some', nI_0le, if_true, nI_lt_iff, cj2, nI_subn, g2]
    · refine ⟨-1, h, h, ?_, ?_, I⟩
      · simp (disch := omega) only [m_Home_least, nI_lt0, nI_lt_iff, t1, if_false, eq_false c]
      · rcases bad with e | e
        · simp only [m_Model_least, cvm, e, bind_some', n0, if_true]
        · simp only [m_Model_least, cvm, e, bind_some', n1, if_false, wi, eq_false c]
end LE
