/-! ALL ORDERS, THE MODEL: states brought back, found, kept -/
theorem pq_tab : ∀ fm, fm < 6 → ∀ n, n < 7 → ∀ c, c < 121 → (pq fm c < 91 ∧ pm fm n (pq fm c) = some c) ∨ (68 ≤ c ∧ c < 117 ∧ ¬ (fm = 1 ∧ c < 75) ∧ ¬ (fm = 2 ∧ 75 ≤ c ∧ c < 93) ∧ ¬ (fm = 4 ∧ 93 ≤ c ∧ c < 105) ∧ ¬ (fm = 5 ∧ 105 ≤ c)) ∨ (fm = 2 ∧ 81 + n ≤ c ∧ c < 87) := by
  have z : ∀ fm, fm < 6 → ∀ n, n < 7 → ∀ c, c < 121 → (decide (pq fm c < 91 ∧ pm fm n (pq fm c) = some c) || decide (68 ≤ c ∧ c < 117 ∧ ¬ (fm = 1 ∧ c < 75) ∧ ¬ (fm = 2 ∧ 75 ≤ c ∧ c < 93) ∧ ¬ (fm = 4 ∧ 93 ≤ c ∧ c < 105) ∧ ¬ (fm = 5 ∧ 105 ≤ c)) || decide (fm = 2 ∧ 81 + n ≤ c ∧ c < 87)) = true := by decide +kernel
  intro fm hfm n hn c hc
  have := z fm hfm n hn c hc
  rw [Bool.or_eq_true, Bool.or_eq_true] at this
  rcases this with (a | a) | a
  · exact Or.inl (of_decide_eq_true a)
  · exact Or.inr (Or.inl (of_decide_eq_true a))
  · exact Or.inr (Or.inr (of_decide_eq_true a))
/-- what the model shows of two states tells them apart -/
theorem ph_alk {fm n c c' : Nat} {g g' : Nat → Int32} (hfm : fm < 6) (n6 : n ≤ 6) (V : IV fm n c 0 g) (V' : IV fm n c' 0 g') (e : ∀ k, k < 91 → ph fm n g k = ph fm n g' k) : alk g g' := fun j hj => by
  rcases pq_tab fm hfm n (by omega) j hj with ⟨a, b⟩ | ⟨a, b, c1, c2, c3, c4⟩ | ⟨a, b, c1⟩
  · have := e (pq fm j) a
    rw [ph_rd b, ph_rd b] at this
    exact this
  · have r : ¬ rel fm j := by unfold rel; omega
    rw [V.2.2.2.1 j (by omega) r, V'.2.2.2.1 j (by omega) r]
  · obtain ⟨k, rfl⟩ : ∃ k, j = 81 + k := ⟨j - 81, by omega⟩
    rw [(V.2.2.2.2.1 a).2.2 k (by omega) (by omega), (V'.2.2.2.2.1 a).2.2 k (by omega) (by omega)]
section MFO
variable {h : zH} {m r F A B C L g : Nat → Int32} {fm n kd s z : Nat}
theorem Mo_rf (hm : h 670 = MO m) : zrR h 670 7 7 = some 675 ∧ zrR h 670 7 20 = some 683 ∧ zrR h 670 7 21 = some 684 ∧ zrR h 670 7 22 = some 685 ∧ zrR h 670 7 23 = some 686 ∧ zrR h 670 7 24 = some 687 := by
  obtain ⟨-, -, -, -, a, -, -, -, -, -, -, -, b, c, d, e, f, -⟩ := MO_ref h m hm
  exact ⟨a, b, c, d, e, f⟩
theorem M_bb_l (hm : h 670 = MO m) (hF : h 683 = zI32 13741 F) (hs : s < 151) : ∀ (d j f : Nat) (r : Nat → Int32), 91 - j = d → j ≤ 91 → d < f → zloop (g_Model_bringBack_2 670 (nI s)) f (nI j, zup h 675 (zI32 91 r)) = some (zup h 675 (zI32 91 (fun k => if j ≤ k ∧ k < 91 then F (91 * s + k) else r k))) := by
  intro d
  induction d with
  | zero =>
    intro j f r hd hj hf
    obtain ⟨f, rfl⟩ : ∃ k, f = k + 1 := ⟨f - 1, by omega⟩
    show g_Model_bringBack_2 670 (nI s) _ (nI j, zup h 675 (zI32 91 r)) = _
    have c : (91 ≤ j) = True := eq_true (by omega)
    simp (disch := omega) only [g_Model_bringBack_2, nI_le_iff, c, if_true]
    refine congrArg (fun z => some (zup h 675 (zI32 91 z))) (funext fun k => ?_)
    rw [if_neg (by omega)]
  | succ d ih =>
    intro j f r hd hj hf
    obtain ⟨f, rfl⟩ : ∃ k, f = k + 1 := ⟨f - 1, by omega⟩
    show g_Model_bringBack_2 670 (nI s) (zloop (g_Model_bringBack_2 670 (nI s)) f) (nI j, zup h 675 (zI32 91 r)) = _
    have c : (91 ≤ j) = False := eq_false (by omega)
    obtain ⟨r7, r20, -⟩ := Mo_rf (h := zup h 675 (zI32 91 r)) (m := m) (by rw [zup_ne (by omega)]; exact hm)
    have lF : zaI (zup h 675 (zI32 91 r)) 683 (nI (91 * s + j)) = some (F (91 * s + j)) := zA32_of (by rw [zup_ne (by omega)]; exact hF) (by omega) (by omega)
    simp (disch := omega) only [g_Model_bringBack_2, nI_le_iff, c, if_false, r7, r20, bind_some', pk_mul, nI_add, lF, zsI, zS32_st]
    rw [ih (j + 1) f _ (by omega) (by omega) (by omega)]
    refine congrArg (fun z => some (zup h 675 (zI32 91 z))) (funext fun k => ?_)
    unfold upd
    by_cases e1 : k = j
    · rw [if_neg (by omega), if_pos e1, if_pos (by omega), e1]
    · by_cases e2 : j ≤ k ∧ k < 91
      · rw [if_pos (by omega), if_pos e2]
      · rw [if_neg (by omega), if_neg e1, if_neg e2]
theorem M_bb (hm : h 670 = MO m) (h5 : h 675 = zI32 91 r) (hr : ∀ k, 91 ≤ k → r k = 0) (hF : h 683 = zI32 13741 F) (hs : s < 151) (e : ∀ k, k < 91 → F (91 * s + k) = ph fm n g k) : m_Model_bringBack 670 (nI s) h = some (zup h 675 (zI32 91 (ph fm n g))) := by
  have z := zN_big
  have := M_bb_l hm hF hs 91 0 zN r rfl (by omega) (by omega)
  rw [zup_self h5] at this
  unfold m_Model_bringBack
  rw [this]
  refine congrArg (fun z => some (zup h 675 (zI32 91 z))) (funext fun k => ?_)
  by_cases q : k < 91
  · rw [if_pos ⟨Nat.zero_le _, q⟩, e k q]
  · rw [if_neg (by omega), hr k (by omega), ph_hi (by omega)]
theorem M_fs14 (hm : h 670 = MO m) (h5 : h 675 = zI32 91 r) (hF : h 683 = zI32 13741 F) (hs : s < 151) (k2 : Int32 → Option Int32) : ∀ (d j f : Nat), 91 - j = d → j ≤ 91 → d + 1 < f → (∀ i, i < j → F (91 * s + i) = r i) →
    ((∀ i, i < 91 → F (91 * s + i) = r i) ∧ zloop (g_Model_findState_14 670 (nI s) h k2) f (nI 1, nI j) = some (nI s)) ∨ ((¬ ∀ i, i < 91 → F (91 * s + i) = r i) ∧ zloop (g_Model_findState_14 670 (nI s) h k2) f (nI 1, nI j) = k2 (nI (s + 1))) := by
  have n1 := nI1_0
  have n0 := nI0_0
  obtain ⟨r7, r20, -⟩ := Mo_rf hm
  intro d
  induction d with
  | zero =>
    intro j f hd hj hf hz
    obtain ⟨f, rfl⟩ : ∃ k, f = k + 1 := ⟨f - 1, by omega⟩
    refine Or.inl ⟨fun i hi => hz i (by omega), ?_⟩
    show g_Model_findState_14 670 (nI s) h k2 _ (nI 1, nI j) = _
    have c : (91 ≤ j) = True := eq_true (by omega)
    simp (disch := omega) only [g_Model_findState_14, nI_le_iff, c, if_true, n1, if_false]
  | succ d ih =>
    intro j f hd hj hf hz
    obtain ⟨f, rfl⟩ : ∃ k, f = k + 1 := ⟨f - 1, by omega⟩
    have c : (91 ≤ j) = False := eq_false (by omega)
    have lF : zaI h 683 (nI (91 * s + j)) = some (F (91 * s + j)) := zA32_of hF (by omega) (by omega)
    have lr : zaI h 675 (nI j) = some (r j) := zA32_of h5 (by omega) (by omega)
    by_cases e : F (91 * s + j) = r j
    · have st : zloop (g_Model_findState_14 670 (nI s) h k2) (f + 1) (nI 1, nI j) = zloop (g_Model_findState_14 670 (nI s) h k2) f (nI 1, nI (j + 1)) := by
        show g_Model_findState_14 670 (nI s) h k2 (zloop _ f) (nI 1, nI j) = _
        simp (disch := omega) only [g_Model_findState_14, nI_le_iff, c, if_false, n1, r20, r7, bind_some', pk_mul, nI_add, lF, lr, eq_true e, if_true]
      rw [st]
      exact ih (j + 1) f (by omega) (by omega) (by omega) (fun i hi => (Nat.lt_or_ge i j).elim (hz i) (fun w => by rw [show i = j by omega]; exact e))
    · refine Or.inr ⟨fun q => e (q j (by omega)), ?_⟩
      have st : zloop (g_Model_findState_14 670 (nI s) h k2) (f + 1) (nI 1, nI j) = zloop (g_Model_findState_14 670 (nI s) h k2) f (nI 0, nI (j + 1)) := by
        show g_Model_findState_14 670 (nI s) h k2 (zloop _ f) (nI 1, nI j) = _
        simp (disch := omega) only [g_Model_findState_14, nI_le_iff, c, if_false, n1, r20, r7, bind_some', pk_mul, nI_add, lF, lr, eq_false e]
      rw [st]
      obtain ⟨f, rfl⟩ : ∃ k, f = k + 1 := ⟨f - 1, by omega⟩
      show g_Model_findState_14 670 (nI s) h k2 (zloop _ f) (nI 0, nI (j + 1)) = _
      by_cases c2 : 91 ≤ j + 1
      · simp (disch := omega) only [g_Model_findState_14, nI_le_iff, eq_true c2, if_true, n0, nI_add]
      · simp (disch := omega) only [g_Model_findState_14, nI_le_iff, eq_false c2, if_false, if_true, n0, nI_add]
theorem M_fs_l {b : bT} {c : Nat} (hm : h 670 = MO m) (h25 : m 25 = nI (bSz b)) (h5 : h 675 = zI32 91 (ph fm n g)) (hF : h 683 = zI32 13741 F) (hz : bSz b ≤ 150) (hfm : fm < 6) (n6 : n ≤ 6) (V : IV fm n c 0 g) (VG : ∀ s, s < bSz b → ∃ c', IV fm n c' 0 (bG b s)) (eF : ∀ s, s < bSz b → ∀ k, k < 91 → F (91 * s + k) = ph fm n (bG b s) k) : ∀ (d j f : Nat), bSz b - j = d → j ≤ bSz b → d < f → zloop (g_Model_findState_2 670 h) f (nI j) = some (nI ((fnd (bG b) g d j).getD (bSz b))) := by
  have z := zN_big
  have e25 : zrI h 670 7 25 = some (nI (bSz b)) := by rw [MO_rd h m (by unfold mosc; omega) hm, h25]
  intro d
  induction d with
  | zero =>
    intro j f hd hj hf
    obtain ⟨f, rfl⟩ : ∃ k, f = k + 1 := ⟨f - 1, by omega⟩
    show g_Model_findState_2 670 h _ (nI j) = _
    have c : (bSz b ≤ j) = True := eq_true (by omega)
    simp (disch := omega) only [g_Model_findState_2, e25, bind_some', nI_le_iff, c, if_true]
    rfl
  | succ d ih =>
    intro j f hd hj hf
    obtain ⟨f, rfl⟩ : ∃ k, f = k + 1 := ⟨f - 1, by omega⟩
    show g_Model_findState_2 670 h (zloop (g_Model_findState_2 670 h) f) (nI j) = _
    have c : (bSz b ≤ j) = False := eq_false (by omega)
    simp (disch := omega) only [g_Model_findState_2, e25, bind_some', nI_le_iff, c, if_false]
    obtain ⟨c', V'⟩ := VG j (by omega)
    rcases M_fs14 hm h5 hF (show j < 151 by omega) (zloop (g_Model_findState_2 670 h) f) 91 0 zN rfl (by omega) (by omega) (fun i hi => by omega) with ⟨q, e⟩ | ⟨q, e⟩
    · rw [e]
      have a : alk (bG b j) g := ph_alk hfm n6 V' V fun k hk => by rw [← eF j (by omega) k hk]; exact q k hk
      unfold fnd
      rw [if_pos a]
      rfl
    · rw [e, ih (j + 1) f (by omega) (by omega) (by omega)]
      have a : ¬ alk (bG b j) g := fun w => q fun k hk => by rw [eF j (by omega) k hk, ph_cg hfm n6 w]
      conv => rhs; unfold fnd
      rw [if_neg a]
theorem M_fs {b : bT} {c : Nat} (hm : h 670 = MO m) (h25 : m 25 = nI (bSz b)) (h5 : h 675 = zI32 91 (ph fm n g)) (hF : h 683 = zI32 13741 F) (hz : bSz b ≤ 150) (hfm : fm < 6) (n6 : n ≤ 6) (V : IV fm n c 0 g) (VG : ∀ s, s < bSz b → ∃ c', IV fm n c' 0 (bG b s)) (eF : ∀ s, s < bSz b → ∀ k, k < 91 → F (91 * s + k) = ph fm n (bG b s) k) : m_Model_findState 670 h = some (nI ((fnd (bG b) g (bSz b) 0).getD (bSz b))) := by
  have z := zN_big
  exact M_fs_l hm h25 h5 hF hz hfm n6 V VG eF (bSz b) 0 zN rfl (by omega) (by omega)
def kF (F : Nat → Int32) (z j : Nat) (r : Nat → Int32) : Nat → Int32 := fun k => if 91 * z + j ≤ k ∧ k < 91 * z + 91 then r (k - 91 * z) else F k
theorem M_ks_l (hm : h 670 = MO m) (h25 : m 25 = nI z) (hz : z < 151) (h5 : h 675 = zI32 91 r) (hA : h 684 = zI32 151 A) (hB : h 685 = zI32 151 B) (x1 x2 : Int32) : ∀ (d j f : Nat) (F : Nat → Int32), 91 - j = d → j ≤ 91 → d < f → ∃ h', zloop (g_Model_keepState_2 670 x1 x2) f (nI j, zup h 683 (zI32 13741 F)) = some h' ∧ h' 670 = MO (upd m 25 (nI (z + 1))) ∧ h' 683 = zI32 13741 (kF F z j r) ∧ h' 684 = zI32 151 (upd A z x1) ∧ h' 685 = zI32 151 (upd B z x2) ∧ ∀ k, k ≠ 670 → k ≠ 683 → k ≠ 684 → k ≠ 685 → h' k = h k := by
  intro d
  induction d with
  | zero =>
    intro j f F hd hj hf
    obtain ⟨f, rfl⟩ : ∃ k, f = k + 1 := ⟨f - 1, by omega⟩
    have c : (91 ≤ j) = True := eq_true (by omega)
    have g0 : (zup h 683 (zI32 13741 F)) 670 = MO m := by rw [zup_ne (by omega)]; exact hm
    obtain ⟨r7, r20, r21, r22, -⟩ := Mo_rf g0
    have e25 : zrI (zup h 683 (zI32 13741 F)) 670 7 25 = some (nI z) := by rw [MO_rd _ m (by unfold mosc; omega) g0, h25]
    obtain ⟨h1, w1, v1, f1⟩ := zS_st (h := zup h 683 (zI32 13741 F)) (a := 684) (n := 151) (k := z) (g := A) (x := x1) (by rw [zup_ne (by omega)]; exact hA) hz (by omega)
    have g1 : h1 670 = MO m := by rw [f1 _ (by omega)]; exact g0
    obtain ⟨-, -, -, s22, -⟩ := Mo_rf g1
    have e25' : zrI h1 670 7 25 = some (nI z) := by rw [MO_rd _ m (by unfold mosc; omega) g1, h25]
    obtain ⟨h2, w2, v2, f2⟩ := zS_st (h := h1) (a := 685) (n := 151) (k := z) (g := B) (x := x2) (by rw [f1 _ (by omega), zup_ne (by omega)]; exact hB) hz (by omega)
    have g2 : h2 670 = MO m := by rw [f2 _ (by omega)]; exact g1
    have e25'' : zrI h2 670 7 25 = some (nI z) := by rw [MO_rd _ m (by unfold mosc; omega) g2, h25]
    have w3 : zwI h2 670 7 25 (nI (z + 1)) = some (zup h2 670 (MO (upd m 25 (nI (z + 1))))) := MO_wr _ _ _ (by unfold mosc; omega) g2
    refine ⟨zup h2 670 (MO (upd m 25 (nI (z + 1)))), ?_, zup_eq _ _ _, ?_, ?_, ?_, fun k a1 a2 a3 a4 => by rw [zup_ne a1, f2 k a4, f1 k a3, zup_ne a2]⟩
    · show g_Model_keepState_2 670 x1 x2 _ (nI j, zup h 683 (zI32 13741 F)) = _
      simp (disch := omega) only [g_Model_keepState_2, nI_le_iff, c, if_true, r21, bind_some', e25, w1, s22, e25', w2, e25'', nI_add, w3]
    · rw [zup_ne (by omega), f2 _ (by omega), f1 _ (by omega), zup_eq]
      refine congrArg (zI32 13741) (funext fun k => ?_)
      unfold kF
      rw [if_neg (by omega)]
    · rw [zup_ne (by omega), f2 _ (by omega)]; exact v1
    · rw [zup_ne (by omega)]; exact v2
  | succ d ih =>
    intro j f F hd hj hf
    obtain ⟨f, rfl⟩ : ∃ k, f = k + 1 := ⟨f - 1, by omega⟩
    have c : (91 ≤ j) = False := eq_false (by omega)
    have g0 : (zup h 683 (zI32 13741 F)) 670 = MO m := by rw [zup_ne (by omega)]; exact hm
    obtain ⟨r7, r20, r21, r22, -⟩ := Mo_rf g0
    have e25 : zrI (zup h 683 (zI32 13741 F)) 670 7 25 = some (nI z) := by rw [MO_rd _ m (by unfold mosc; omega) g0, h25]
    have lr : zaI (zup h 683 (zI32 13741 F)) 675 (nI j) = some (r j) := zA32_of (by rw [zup_ne (by omega)]; exact h5) (by omega) (by omega)
    obtain ⟨h', e', a1, a2, a3⟩ := ih (j + 1) f (upd F (91 * z + j) (r j)) (by omega) (by omega) (by omega)
    refine ⟨h', ?_, a1, ?_, a3⟩
    · rw [← e']
      show g_Model_keepState_2 670 x1 x2 (zloop _ f) (nI j, zup h 683 (zI32 13741 F)) = _
      simp (disch := omega) only [g_Model_keepState_2, nI_le_iff, c, if_false, r20, bind_some', e25, r7, lr, pk_mul, nI_add, zsI, zS32_st]
    · rw [a2]
      refine congrArg (zI32 13741) (funext fun k => ?_)
      unfold kF upd
      by_cases e1 : k = 91 * z + j
      · rw [if_neg (by omega), if_pos e1, if_pos (by omega), e1]
        congr 1; omega
      · by_cases e2 : 91 * z + j ≤ k ∧ k < 91 * z + 91
        · rw [if_pos (by omega), if_pos e2]
        · rw [if_neg (by omega), if_neg e1, if_neg e2]
theorem M_ks (hm : h 670 = MO m) (h25 : m 25 = nI z) (hz : z < 151) (h5 : h 675 = zI32 91 r) (hF : h 683 = zI32 13741 F) (hA : h 684 = zI32 151 A) (hB : h 685 = zI32 151 B) (x1 x2 : Int32) : ∃ h', m_Model_keepState 670 x1 x2 h = some h' ∧ h' 670 = MO (upd m 25 (nI (z + 1))) ∧ h' 683 = zI32 13741 (kF F z 0 r) ∧ h' 684 = zI32 151 (upd A z x1) ∧ h' 685 = zI32 151 (upd B z x2) ∧ ∀ k, k ≠ 670 → k ≠ 683 → k ≠ 684 → k ≠ 685 → h' k = h k := by
  have zz := zN_big
  have := M_ks_l hm h25 hz h5 hA hB x1 x2 91 0 zN F rfl (by omega) (by omega)
  rw [zup_self hF] at this
  exact this
end MFO
