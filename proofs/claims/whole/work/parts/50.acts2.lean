/-! ACTS: THE MODEL; THE CALLS -/
def mA (h : zH) (m : Nat → Int32) (t : tT) : zH := zup (zup h 688 (zI32 24 t.1)) 670 (MO (upd m 27 (nI t.2)))
section ACTM
variable {h : zH} {m Kf : Nat → Int32} {t : tT} {wy K : Nat}
theorem mA_670 : mA h m t 670 = MO (upd m 27 (nI t.2)) := zup_eq _ _ _
theorem mA_cv {α : Type} (o : Option α) : zcv (mA h m t) 670 7 o = o := MO_cv _ _ mA_670 o
theorem mA_28 (q : m 28 = nI wy) : zrI (mA h m t) 670 7 28 = some (nI wy) := by
  rw [MO_rd _ _ (by unfold mosc; omega) mA_670, upd_ne (by omega), q]
theorem mA_5 : zrR (mA h m t) 670 7 5 = some 674 := (MO_ref _ _ mA_670).2.2.2.1
theorem mA_k (hk : h 674 = zI32 10 Kf) (hw : wy < 10) (e : Kf wy = nI K) : zaI (mA h m t) 674 (nI wy) = some (nI K) := by
  rw [zaI, zA32_of (g := Kf) (n := 10) (by unfold mA; rw [zup_ne (by omega), zup_ne (by omega)]; exact hk) hw (by omega), e]
theorem mA_bg {b : Nat} (ht : t.2 < 90000) : m_Model_ranBody 670 (nI b) (mA h m t) = some (mA h m (bgn t b)) := by
  have rd : zrI (mA h m t) 670 7 27 = some (nI t.2) := by rw [MO_rd _ _ (by unfold mosc; omega) mA_670, upd_eq]
  have rd' : ∀ tr, zrI (mA h m (tr, t.2)) 670 7 27 = some (nI t.2) := fun tr => by rw [MO_rd _ _ (by unfold mosc; omega) mA_670, upd_eq]
  have w : ∀ tr, zwI (mA h m (tr, t.2)) 670 7 27 (nI (t.2 + 1)) = some (mA h m (tr, t.2 + 1)) := fun tr => by
    rw [MO_wr _ _ _ (by unfold mosc; omega) mA_670, upd_upd]
    unfold mA
    rw [zup_zup]
  have r0 : zrR (mA h m t) 670 7 26 = some 688 := (MO_ref _ _ mA_670).2.2.2.2.2.2.2.2.2.2.2.2.2.2.2.2.2.1
  unfold bgn
  by_cases c : t.2 < 24
  · have c2 : (24 ≤ t.2) = False := eq_false (by omega)
    have s : zsI (mA h m t) 688 (nI t.2) (nI b) = some (mA h m (upd t.1 t.2 (nI b), t.2)) := by
      rw [zsI, zS32_of (h := mA h m t) (a := 688) (g := t.1) (n := 24) (by unfold mA; rw [zup_ne (by omega), zup_eq]) c (by omega)]
      unfold mA
      rw [zup_comm (by omega), zup_zup]
    rw [if_pos c]
    simp (disch := omega) only [m_Model_ranBody, rd, bind_some', nI_le_iff, c2, if_false, r0, s, rd', nI_add, w]
  · have c2 : (24 ≤ t.2) = True := eq_true (by omega)
    have w' := w t.1
    rw [if_neg c]
    simp (disch := omega) only [m_Model_ranBody, rd, bind_some', nI_le_iff, c2, if_true, nI_add]
    rw [w', bind_some']
theorem abv : ∀ h : zH, m_Model_above (nI 1) h = some (nI 0) ∧ m_Model_above (nI 2) h = some (nI 0) ∧ m_Model_above (nI 3) h = some (nI 0) ∧ m_Model_above (nI 4) h = some (nI 3) ∧ m_Model_above (nI 5) h = some (nI 3) ∧ m_Model_above (nI 6) h = some (nI 2) ∧ m_Model_above (nI 7) h = some (nI 4) ∧ m_Model_above (nI 8) h = some (nI 5) := fun h => ⟨rfl, rfl, rfl, rfl, rfl, rfl, rfl, rfl⟩
theorem nIne {a b : Nat} (ha : a < 1000) (hb : b < 1000) (q : a ≠ b) : ¬ nI a = nI b := fun e => q ((nI_eq (by omega) (by omega)).mp e)
theorem zb2_id {o : Option (Int32 × zH)} : (zb2 o fun v h => some (v, h)) = o := by
  rcases o with _ | ⟨v, h⟩ <;> rfl
theorem M_sends {k : Nat} (hk : k < 9) (q28 : m 28 = nI wy) (ht : t.2 < 80000) (x : Int32) : m_Model_sends 40 670 (nI k) x (mA h m t) = some ((sP (nI wy) k x t).1, mA h m (sP (nI wy) k x t).2) := by
  have S0 : ∀ (f : Nat) (t : tT) (x : Int32), t.2 < 90000 → zloop g_Model_sends_0 (f + 1) (670, nI 0, x, mA h m t) = some (x + nI wy, mA h m (bgn t 1)) := fun f t x ht => by
    show g_Model_sends_0 (zloop g_Model_sends_0 f) (670, nI 0, x, mA h m t) = _
    unfold g_Model_sends_0
    dsimp only
    rw [if_pos rfl, mA_cv, mA_bg ht, bind_some', mA_28 q28, bind_some']
  have up : ∀ (f k j : Nat) (t : tT) (x : Int32), (k = 2 ∨ k = 3 ∨ k = 5 ∨ k = 6 ∨ k = 7 ∨ k = 8) → m_Model_above (nI k) (mA h m t) = some (nI j) → zloop g_Model_sends_0 (f + 1) (670, nI k, x, mA h m t) = zloop g_Model_sends_0 f (670, nI j, x, mA h m t) := fun f k j t x hk ha => by
    show g_Model_sends_0 (zloop g_Model_sends_0 f) (670, nI k, x, mA h m t) = _
    unfold g_Model_sends_0
    dsimp only
    rw [if_neg (nIne (by omega) (by omega) (by omega)), if_neg (nIne (by omega) (by omega) (by omega))]
    by_cases k2 : k = 2
    · rw [if_pos (by rw [k2]), ha, bind_some', mA_cv, zb2_id]
    · rw [if_neg (nIne (by omega) (by omega) k2)]
      by_cases k3 : k = 3
      · rw [if_pos (by rw [k3]), ha, bind_some', mA_cv, zb2_id]
      · rw [if_neg (nIne (by omega) (by omega) k3), if_neg (nIne (by omega) (by omega) (by omega)), ha, bind_some', mA_cv, zb2_id]
  have S3 : ∀ (f : Nat) (t : tT) (x : Int32), t.2 < 90000 → zloop g_Model_sends_0 (f + 2) (670, nI 3, x, mA h m t) = some (x + nI wy, mA h m (bgn t 1)) := fun f t x ht => (up (f + 1) 3 0 t x (by omega) (abv _).2.2.1).trans (S0 f t x ht)
  have S4 : ∀ (f : Nat) (t : tT) (x : Int32), t.2 < 80000 → zloop g_Model_sends_0 (f + 3) (670, nI 4, x, mA h m t) = some ((x + nI wy) * nI 3, mA h m (bgn (bgn t 50) 1)) := fun f t x ht => by
    show g_Model_sends_0 (zloop g_Model_sends_0 (f + 2)) (670, nI 4, x, mA h m t) = _
    unfold g_Model_sends_0
    dsimp only
    rw [if_neg (nIne (by omega) (by omega) (by omega)), if_neg (nIne (by omega) (by omega) (by omega)), if_neg (nIne (by omega) (by omega) (by omega)), if_neg (nIne (by omega) (by omega) (by omega)), if_pos rfl, mA_cv, mA_bg (by omega), bind_some', (abv _).2.2.2.1, bind_some', mA_cv]
    have := S3 f (bgn t 50) x (by show t.2 + 1 < _; omega)
    unfold g_Model_sends_0 at this
    rw [this, zb2_some]
  unfold m_Model_sends sP
  rcases (show k = 0 ∨ k = 1 ∨ k = 2 ∨ k = 3 ∨ k = 4 ∨ k = 5 ∨ k = 6 ∨ k = 7 ∨ k = 8 by omega) with rfl | rfl | rfl | rfl | rfl | rfl | rfl | rfl | rfl
  · exact S0 39 t x (by omega)
  · show g_Model_sends_0 (zloop g_Model_sends_0 39) (670, nI 1, x, mA h m t) = _
    unfold g_Model_sends_0
    dsimp only
    rw [if_neg (nIne (by omega) (by omega) (by omega)), if_pos rfl, mA_cv, mA_bg (by omega), bind_some', (abv _).1, bind_some', mA_cv]
    have := S0 38 (bgn t 20) x (by show t.2 + 1 < _; omega)
    unfold g_Model_sends_0 at this
    rw [this, zb2_some]
    rfl
  · exact (up 39 2 0 t x (by omega) (abv _).2.1).trans (S0 38 t x (by omega))
  · exact S3 38 t x (by omega)
  · exact S4 37 t x (by omega)
  · exact (up 39 5 3 t x (by omega) (abv _).2.2.2.2.1).trans (S3 37 t x (by omega))
  · exact (up 39 6 2 t x (by omega) (abv _).2.2.2.2.2.1).trans ((up 38 2 0 t x (by omega) (abv _).2.1).trans (S0 37 t x (by omega)))
  · exact (up 39 7 4 t x (by omega) (abv _).2.2.2.2.2.2.1).trans (S4 36 t x (by omega))
  · exact (up 39 8 5 t x (by omega) (abv _).2.2.2.2.2.2.2).trans ((up 38 5 3 t x (by omega) (abv _).2.2.2.2.1).trans (S3 36 t x (by omega)))
theorem M_asks (hK : K < 9) {k : Nat} (hk : k < 9) (q28 : m 28 = nI wy) (h674 : h 674 = zI32 10 Kf) (hw : wy < 10) (ek : Kf wy = nI K) (ht : t.2 < 50000) (x : Int32) : m_Model_asksOf 40 670 (nI k) x (mA h m t) = some ((aP (nI wy) K k x t).1, mA h m (aP (nI wy) K k x t).2) := by
  have S0 : ∀ (f : Nat) (t : tT) (x : Int32), t.2 < 70000 → zloop g_Model_asksOf_0 (f + 1) (670, nI 0, x, mA h m t) = some ((aP0 (nI wy) K x t).1, mA h m (aP0 (nI wy) K x t).2) := fun f t x ht => by
    show g_Model_asksOf_0 (zloop g_Model_asksOf_0 f) (670, nI 0, x, mA h m t) = _
    unfold g_Model_asksOf_0
    dsimp only
    rw [if_pos rfl, mA_cv, mA_bg (by omega), bind_some', mA_5, bind_some', mA_28 q28, bind_some', mA_k h674 hw ek, bind_some', mA_cv, M_sends hK q28 (by show t.2 + 1 < _; omega), zb2_some]
    rfl
  have up : ∀ (f k j : Nat) (t : tT) (x : Int32), k < 9 → (k ≠ 0 ∧ k ≠ 3 ∧ k ≠ 7) → m_Model_above (nI k) (mA h m t) = some (nI j) → zloop g_Model_asksOf_0 (f + 1) (670, nI k, x, mA h m t) = zloop g_Model_asksOf_0 f (670, nI j, x, mA h m t) := fun f k j t x k9 hk ha => by
    show g_Model_asksOf_0 (zloop g_Model_asksOf_0 f) (670, nI k, x, mA h m t) = _
    unfold g_Model_asksOf_0
    dsimp only
    rw [if_neg (nIne (by omega) (by omega) (by omega)), if_neg (nIne (by omega) (by omega) (by omega)), if_neg (nIne (by omega) (by omega) (by omega)), ha, bind_some', mA_cv, zb2_id]
  have S3 : ∀ (f : Nat) (t : tT) (x : Int32), t.2 < 60000 → zloop g_Model_asksOf_0 (f + 2) (670, nI 3, x, mA h m t) = some ((aP3 (nI wy) K x t).1, mA h m (aP3 (nI wy) K x t).2) := fun f t x ht => by
    show g_Model_asksOf_0 (zloop g_Model_asksOf_0 (f + 1)) (670, nI 3, x, mA h m t) = _
    have := S0 f (bgn t 40) x (by show t.2 + 1 < _; omega)
    unfold g_Model_asksOf_0 at this ⊢
    dsimp only
    rw [if_neg (nIne (by omega) (by omega) (by omega)), if_pos rfl, mA_cv, mA_bg (by omega), bind_some', (abv _).2.2.1, bind_some', mA_cv, this, zb2_some]
    rfl
  have S4 : ∀ (f : Nat) (t : tT) (x : Int32), t.2 < 60000 → zloop g_Model_asksOf_0 (f + 3) (670, nI 4, x, mA h m t) = some ((aP3 (nI wy) K x t).1, mA h m (aP3 (nI wy) K x t).2) := fun f t x ht => (up (f + 2) 4 3 t x (by omega) (by omega) (abv _).2.2.2.1).trans (S3 f t x ht)
  have S5 : ∀ (f : Nat) (t : tT) (x : Int32), t.2 < 60000 → zloop g_Model_asksOf_0 (f + 3) (670, nI 5, x, mA h m t) = some ((aP3 (nI wy) K x t).1, mA h m (aP3 (nI wy) K x t).2) := fun f t x ht => (up (f + 2) 5 3 t x (by omega) (by omega) (abv _).2.2.2.2.1).trans (S3 f t x ht)
  unfold m_Model_asksOf aP
  rcases (show k = 0 ∨ k = 1 ∨ k = 2 ∨ k = 3 ∨ k = 4 ∨ k = 5 ∨ k = 6 ∨ k = 7 ∨ k = 8 by omega) with rfl | rfl | rfl | rfl | rfl | rfl | rfl | rfl | rfl
  · exact S0 39 t x (by omega)
  · exact (up 39 1 0 t x (by omega) (by omega) (abv _).1).trans (S0 38 t x (by omega))
  · exact (up 39 2 0 t x (by omega) (by omega) (abv _).2.1).trans (S0 38 t x (by omega))
  · exact S3 38 t x (by omega)
  · exact S4 37 t x (by omega)
  · exact S5 37 t x (by omega)
  · exact (up 39 6 2 t x (by omega) (by omega) (abv _).2.2.2.2.2.1).trans ((up 38 2 0 t x (by omega) (by omega) (abv _).2.1).trans (S0 37 t x (by omega)))
  · show g_Model_asksOf_0 (zloop g_Model_asksOf_0 39) (670, nI 7, x, mA h m t) = _
    have := S4 36 (bgn t 80) x (by show t.2 + 1 < _; omega)
    have n3 : (aP3 (nI wy) K x (bgn t 80)).2.2 ≤ t.2 + 1 + 4 := aP3_n
    unfold g_Model_asksOf_0 at this ⊢
    dsimp only
    rw [if_neg (nIne (by omega) (by omega) (by omega)), if_neg (nIne (by omega) (by omega) (by omega)), if_pos rfl, mA_cv, mA_bg (by omega), bind_some', (abv _).2.2.2.2.2.2.1, bind_some', mA_cv, this, zb2_some, (abv _).2.2.2.2.2.2.1, bind_some', mA_cv, M_sends (k := 4) (by omega) q28 (by omega), zb2_some]
    rfl
  · exact (up 39 8 5 t x (by omega) (by omega) (abv _).2.2.2.2.2.2.2).trans (S5 36 t x (by omega))
theorem M_owes (hK : K < 9) {k : Nat} (hk : k < 9) (q28 : m 28 = nI wy) (h674 : h 674 = zI32 10 Kf) (hw : wy < 10) (ek : Kf wy = nI K) (ht : t.2 < 50000) (x : Int32) : m_Model_owes 40 670 (nI k) x (mA h m t) = some ((oP (nI wy) K k x t).1, mA h m (oP (nI wy) K k x t).2) := by
  have S0 : ∀ (f : Nat) (t : tT) (x : Int32), t.2 < 70000 → zloop g_Model_owes_0 (f + 1) (670, nI 0, x, mA h m t) = some ((oP0 (nI wy) x t).1, mA h m (oP0 (nI wy) x t).2) := fun f t x ht => by
    show g_Model_owes_0 (zloop g_Model_owes_0 f) (670, nI 0, x, mA h m t) = _
    unfold g_Model_owes_0
    dsimp only
    rw [if_pos rfl, mA_cv, mA_bg (by omega), bind_some', mA_28 q28, bind_some']
    rfl
  have up : ∀ (f k j : Nat) (t : tT) (x : Int32), k < 9 → (k = 1 ∨ k = 3 ∨ k = 4 ∨ k = 7 ∨ k = 8) → m_Model_above (nI k) (mA h m t) = some (nI j) → zloop g_Model_owes_0 (f + 1) (670, nI k, x, mA h m t) = zloop g_Model_owes_0 f (670, nI j, x, mA h m t) := fun f k j t x k9 hk ha => by
    show g_Model_owes_0 (zloop g_Model_owes_0 f) (670, nI k, x, mA h m t) = _
    unfold g_Model_owes_0
    dsimp only
    rw [if_neg (nIne (by omega) (by omega) (by omega))]
    by_cases k1 : k = 1
    · rw [if_pos (by rw [k1]), ha, bind_some', mA_cv, zb2_id]
    · rw [if_neg (nIne (by omega) (by omega) k1), if_neg (nIne (by omega) (by omega) (by omega))]
      by_cases k3 : k = 3
      · rw [if_pos (by rw [k3]), ha, bind_some', mA_cv, zb2_id]
      · rw [if_neg (nIne (by omega) (by omega) k3)]
        by_cases k4 : k = 4
        · rw [if_pos (by rw [k4]), ha, bind_some', mA_cv, zb2_id]
        · rw [if_neg (nIne (by omega) (by omega) k4), if_neg (nIne (by omega) (by omega) (by omega)), if_neg (nIne (by omega) (by omega) (by omega)), ha, bind_some', mA_cv, zb2_id]
  have S2 : ∀ (f : Nat) (t : tT) (x : Int32), t.2 < 60000 → zloop g_Model_owes_0 (f + 2) (670, nI 2, x, mA h m t) = some ((oP2 (nI wy) K x t).1, mA h m (oP2 (nI wy) K x t).2) := fun f t x ht => by
    show g_Model_owes_0 (zloop g_Model_owes_0 (f + 1)) (670, nI 2, x, mA h m t) = _
    have := S0 f (bgn t 30) x (by show t.2 + 1 < _; omega)
    unfold g_Model_owes_0 at this ⊢
    dsimp only
    rw [if_neg (nIne (by omega) (by omega) (by omega)), if_neg (nIne (by omega) (by omega) (by omega)), if_pos rfl, mA_cv, mA_bg (by omega), bind_some', (abv _).2.1, bind_some', mA_cv, this, zb2_some, mA_5, bind_some', mA_28 q28, bind_some', mA_k h674 hw ek, bind_some', mA_cv, M_sends hK q28 (by show t.2 + 1 + 1 < _; omega), zb2_some]
    rfl
  have S3 : ∀ (f : Nat) (t : tT) (x : Int32), t.2 < 70000 → zloop g_Model_owes_0 (f + 2) (670, nI 3, x, mA h m t) = some ((oP0 (nI wy) x t).1, mA h m (oP0 (nI wy) x t).2) := fun f t x ht => (up (f + 1) 3 0 t x (by omega) (by omega) (abv _).2.2.1).trans (S0 f t x ht)
  have S4 : ∀ (f : Nat) (t : tT) (x : Int32), t.2 < 70000 → zloop g_Model_owes_0 (f + 3) (670, nI 4, x, mA h m t) = some ((oP0 (nI wy) x t).1, mA h m (oP0 (nI wy) x t).2) := fun f t x ht => (up (f + 2) 4 3 t x (by omega) (by omega) (abv _).2.2.2.1).trans (S3 f t x ht)
  have S5 : ∀ (f : Nat) (t : tT) (x : Int32), t.2 < 60000 → zloop g_Model_owes_0 (f + 3) (670, nI 5, x, mA h m t) = some ((oP0 (nI wy) (x + nI 1) (bgn t 61)).1, mA h m (oP0 (nI wy) (x + nI 1) (bgn t 61)).2) := fun f t x ht => by
    show g_Model_owes_0 (zloop g_Model_owes_0 (f + 2)) (670, nI 5, x, mA h m t) = _
    have := S3 f (bgn t 61) (x + nI 1) (by show t.2 + 1 < _; omega)
    unfold g_Model_owes_0 at this ⊢
    dsimp only
    rw [if_neg (nIne (by omega) (by omega) (by omega)), if_neg (nIne (by omega) (by omega) (by omega)), if_neg (nIne (by omega) (by omega) (by omega)), if_neg (nIne (by omega) (by omega) (by omega)), if_neg (nIne (by omega) (by omega) (by omega)), if_pos rfl, mA_cv, mA_bg (by omega), bind_some', (abv _).2.2.2.2.1, bind_some', mA_cv, this, zb2_some]
  unfold m_Model_owes oP
  rcases (show k = 0 ∨ k = 1 ∨ k = 2 ∨ k = 3 ∨ k = 4 ∨ k = 5 ∨ k = 6 ∨ k = 7 ∨ k = 8 by omega) with rfl | rfl | rfl | rfl | rfl | rfl | rfl | rfl | rfl
  · exact S0 39 t x (by omega)
  · exact (up 39 1 0 t x (by omega) (by omega) (abv _).1).trans (S0 38 t x (by omega))
  · exact S2 38 t x (by omega)
  · exact S3 38 t x (by omega)
  · exact S4 37 t x (by omega)
  · exact S5 37 t x (by omega)
  · show g_Model_owes_0 (zloop g_Model_owes_0 39) (670, nI 6, x, mA h m t) = _
    have := S2 37 (bgn t 70) x (by show t.2 + 1 < _; omega)
    unfold g_Model_owes_0 at this ⊢
    dsimp only
    rw [if_neg (nIne (by omega) (by omega) (by omega)), if_neg (nIne (by omega) (by omega) (by omega)), if_neg (nIne (by omega) (by omega) (by omega)), if_neg (nIne (by omega) (by omega) (by omega)), if_neg (nIne (by omega) (by omega) (by omega)), if_neg (nIne (by omega) (by omega) (by omega)), if_pos rfl, mA_cv, mA_bg (by omega), bind_some', (abv _).2.2.2.2.2.1, bind_some', mA_cv, this, zb2_some]
    rfl
  · exact (up 39 7 4 t x (by omega) (by omega) (abv _).2.2.2.2.2.2.1).trans (S4 36 t x (by omega))
  · exact (up 39 8 5 t x (by omega) (by omega) (abv _).2.2.2.2.2.2.2).trans (S5 36 t x (by omega))
theorem M_tells (hK : K < 9) {k : Nat} (hk : k < 9) (q28 : m 28 = nI wy) (h674 : h 674 = zI32 10 Kf) (hw : wy < 10) (ek : Kf wy = nI K) (ht : t.2 < 20000) (x : Int32) : m_Model_tells 40 670 (nI k) x (mA h m t) = some ((tP (nI wy) K k x t).1, mA h m (tP (nI wy) K k x t).2) := by
  have S0 : ∀ (f : Nat) (t : tT) (x : Int32), t.2 < 40000 → zloop g_Model_tells_0 (f + 1) (670, nI 0, x, mA h m t) = some ((tP0 (nI wy) K x t).1, mA h m (tP0 (nI wy) K x t).2) := fun f t x ht => by
    have n7 : (aP (nI wy) K K x (bgn t 2)).2.2 ≤ t.2 + 1 + 7 := aP_n
    show g_Model_tells_0 (zloop g_Model_tells_0 f) (670, nI 0, x, mA h m t) = _
    unfold g_Model_tells_0
    dsimp only
    rw [if_pos rfl, mA_cv, mA_bg (by omega), bind_some', mA_5, bind_some', mA_28 q28, bind_some', mA_k h674 hw ek, bind_some', mA_cv, M_asks hK hK q28 h674 hw ek (by show t.2 + 1 < _; omega), zb2_some, mA_5, bind_some', mA_28 q28, bind_some', mA_k h674 hw ek, bind_some', mA_cv, M_owes hK hK q28 h674 hw ek (by omega), zb2_some]
    rfl
  have up : ∀ (f k j : Nat) (t : tT) (x : Int32), k < 9 → (k ≠ 0 ∧ k ≠ 5 ∧ k ≠ 8) → m_Model_above (nI k) (mA h m t) = some (nI j) → zloop g_Model_tells_0 (f + 1) (670, nI k, x, mA h m t) = zloop g_Model_tells_0 f (670, nI j, x, mA h m t) := fun f k j t x k9 hk ha => by
    show g_Model_tells_0 (zloop g_Model_tells_0 f) (670, nI k, x, mA h m t) = _
    unfold g_Model_tells_0
    dsimp only
    rw [if_neg (nIne (by omega) (by omega) (by omega)), if_neg (nIne (by omega) (by omega) (by omega)), if_neg (nIne (by omega) (by omega) (by omega)), ha, bind_some', mA_cv, zb2_id]
  have S3 : ∀ (f : Nat) (t : tT) (x : Int32), t.2 < 40000 → zloop g_Model_tells_0 (f + 2) (670, nI 3, x, mA h m t) = some ((tP0 (nI wy) K x t).1, mA h m (tP0 (nI wy) K x t).2) := fun f t x ht => (up (f + 1) 3 0 t x (by omega) (by omega) (abv _).2.2.1).trans (S0 f t x ht)
  have S2 : ∀ (f : Nat) (t : tT) (x : Int32), t.2 < 40000 → zloop g_Model_tells_0 (f + 2) (670, nI 2, x, mA h m t) = some ((tP0 (nI wy) K x t).1, mA h m (tP0 (nI wy) K x t).2) := fun f t x ht => (up (f + 1) 2 0 t x (by omega) (by omega) (abv _).2.1).trans (S0 f t x ht)
  have S4 : ∀ (f : Nat) (t : tT) (x : Int32), t.2 < 40000 → zloop g_Model_tells_0 (f + 3) (670, nI 4, x, mA h m t) = some ((tP0 (nI wy) K x t).1, mA h m (tP0 (nI wy) K x t).2) := fun f t x ht => (up (f + 2) 4 3 t x (by omega) (by omega) (abv _).2.2.2.1).trans (S3 f t x ht)
  have S5 : ∀ (f : Nat) (t : tT) (x : Int32), t.2 < 30000 → zloop g_Model_tells_0 (f + 3) (670, nI 5, x, mA h m t) = some ((tP5 (nI wy) K x t).1, mA h m (tP5 (nI wy) K x t).2) := fun f t x ht => by
    show g_Model_tells_0 (zloop g_Model_tells_0 (f + 2)) (670, nI 5, x, mA h m t) = _
    have := S3 f (bgn t 60) x (by show t.2 + 1 < _; omega)
    unfold g_Model_tells_0 at this ⊢
    dsimp only
    rw [if_neg (nIne (by omega) (by omega) (by omega)), if_pos rfl, mA_cv, mA_bg (by omega), bind_some', (abv _).2.2.2.2.1, bind_some', mA_cv, this, zb2_some]
    rfl
  unfold m_Model_tells tP
  rcases (show k = 0 ∨ k = 1 ∨ k = 2 ∨ k = 3 ∨ k = 4 ∨ k = 5 ∨ k = 6 ∨ k = 7 ∨ k = 8 by omega) with rfl | rfl | rfl | rfl | rfl | rfl | rfl | rfl | rfl
  · exact S0 39 t x (by omega)
  · exact (up 39 1 0 t x (by omega) (by omega) (abv _).1).trans (S0 38 t x (by omega))
  · exact S2 38 t x (by omega)
  · exact S3 38 t x (by omega)
  · exact S4 37 t x (by omega)
  · exact S5 37 t x (by omega)
  · exact (up 39 6 2 t x (by omega) (by omega) (abv _).2.2.2.2.2.1).trans (S2 37 t x (by omega))
  · exact (up 39 7 4 t x (by omega) (by omega) (abv _).2.2.2.2.2.2.1).trans (S4 36 t x (by omega))
  · show g_Model_tells_0 (zloop g_Model_tells_0 39) (670, nI 8, x, mA h m t) = _
    have := S5 36 (bgn t 90) x (by show t.2 + 1 < _; omega)
    unfold g_Model_tells_0 at this ⊢
    dsimp only
    rw [if_neg (nIne (by omega) (by omega) (by omega)), if_neg (nIne (by omega) (by omega) (by omega)), if_pos rfl, mA_cv, mA_bg (by omega), bind_some', (abv _).2.2.2.2.2.2.2, bind_some', mA_cv, this, zb2_some]
    rfl
end ACTM
section CALLS6
variable {h : zH} {n tl w rb ran b : Nat} {X : Nat → Nat → Nat} {Le : Nat → Nat} {Kf : Nat → Int32}
theorem f_act (B : BAS n X Le tl w rb ran Kf b h) (x y v : Int32) : ∃ r h1 h2, m_Home_act 0 x y v h = some (r, h1) ∧ m_Model_act 670 x y v h1 = some (r, h2) ∧ (∃ ran', BAS n X Le tl w rb ran' Kf b h2) ∧ ∀ k, 21 ≤ k → k < 643 → h2 k = h k := by
  obtain ⟨⟨h0, m, hm, m1, m4, m6, m19, m27⟩, cT, cH, ⟨w10, k18, k674, kk⟩, cR, cS, cC, ⟨rn, ⟨a0, b0, e643⟩, tr, t1, t2⟩, cX⟩ := id B
  have n1 := nI1_0
  have n0 := nI0_0
  have cvh := fun {α : Type} (o : Option α) => HO_cv h0 o
  obtain ⟨-, -, -, -, q3, -, -, -, -, -, -, q10, -⟩ := HO_rd h0
  have cv0 : ∀ {α : Type} (o : Option α), zcv h 643 0 o = o := fun o => zcv_of (zcls_of e643)
  have w1 : zwI h 643 0 1 (nI 0) = some (zup h 643 (AE 0 a0 b0)) := zwI_of e643 (by simp)
  have cl : m_Acts_clear 643 h = some (zup h 643 (AE 0 a0 b0)) := by simp only [m_Acts_clear, w1, bind_some']
  have h0c : (zup h 643 (AE 0 a0 b0)) 0 = HO tl w rb := by rw [zup_ne (by omega)]; exact h0
  have hmc : (zup h 643 (AE 0 a0 b0)) 670 = MO m := by rw [zup_ne (by omega)]; exact hm
  have iw := isWay_H h0c w10 x
  have q10c : zrR (zup h 643 (AE 0 a0 b0)) 0 6 10 = some 643 := (HO_rd h0c).2.2.2.2.2.2.2.2.2.2.2.1
  have q3c : zrR (zup h 643 (AE 0 a0 b0)) 0 6 3 = some 18 := (HO_rd h0c).2.2.2.2.1
  have cvc : ∀ {α : Type} (o : Option α), zcv (zup h 643 (AE 0 a0 b0)) 0 6 o = o := fun o => HO_cv h0c o
  have cvA : ∀ {α : Type} (o : Option α), zcv (zup h 643 (AE 0 a0 b0)) 643 0 o = o := fun o => zcv_of (zcls_of (zup_eq _ _ _))
  -- an answer 0, nothing traced
  have none0 : ∀ (kd' nm' : Int32) (H : m_Home_act 0 x y v h = some (nI 0, zup h 643 (AE 0 a0 b0))) (M : m_Model_act 670 x y v (zup h 643 (AE 0 a0 b0)) = some (nI 0, zup (zup h 643 (AE 0 a0 b0)) 670 (MO (upd m 27 (nI 0))))), ∃ r h1 h2, m_Home_act 0 x y v h = some (r, h1) ∧ m_Model_act 670 x y v h1 = some (r, h2) ∧ (∃ ran', BAS n X Le tl w rb ran' Kf b h2) ∧ ∀ k, 21 ≤ k → k < 643 → h2 k = h k := fun _ _ H M => by
    have q : ∀ k, k ≠ 643 → k ≠ 670 → zup (zup h 643 (AE 0 a0 b0)) 670 (MO (upd m 27 (nI 0))) k = h k := fun k a c => by rw [zup_ne c, zup_ne a]
    refine ⟨_, _, _, H, M, ⟨0, ⟨by rw [q 0 (by omega) (by omega)]; exact h0, _, zup_eq _ _ _, ?_, ?_, ?_, ?_, upd_eq _ _ _⟩, cT.fr fun k y => q k (by omega) (by omega), cH.fr fun k y => q k (by omega) (by omega), cKinds.fr ⟨w10, k18, k674, kk⟩ fun k y => q k (by omega) (by omega), cR.fr fun k y => q k (by omega) (by omega), cS.fr fun k y => q k (by omega) (by omega), cC.fr fun k y => q k (by omega) (by omega), ⟨by omega, ⟨a0, b0, by rw [zup_ne (by omega), zup_eq]; rfl⟩, tr, by rw [q 644 (by omega) (by omega)]; exact t1, by rw [q 688 (by omega) (by omega)]; exact t2⟩, cX.fr fun k y => q k (by omega) (by omega)⟩, fun k a c => q k (by omega) (by omega)⟩
    · rw [upd_ne (by omega)]; exact m1
    · rw [upd_ne (by omega)]; exact m4
    · rw [upd_ne (by omega)]; exact m6
    · rw [upd_ne (by omega)]; exact m19
  have mw : zwI (zup h 643 (AE 0 a0 b0)) 670 7 27 (nI 0) = some (zup (zup h 643 (AE 0 a0 b0)) 670 (MO (upd m 27 (nI 0)))) := MO_wr _ m _ (by unfold mosc; omega) hmc
  have hm2 : (zup (zup h 643 (AE 0 a0 b0)) 670 (MO (upd m 27 (nI 0)))) 670 = MO (upd m 27 (nI 0)) := zup_eq _ _ _
  have iwM := isWay_M hm2 (by rw [upd_ne (by omega)]; exact m6) w10 x
  have cvM : ∀ {α : Type} (o : Option α), zcv (zup (zup h 643 (AE 0 a0 b0)) 670 (MO (upd m 27 (nI 0)))) 670 7 o = o := fun o => MO_cv _ _ hm2 o
  rcases ix_cases x w (by omega) with ⟨z, -⟩ | ⟨wy, hwy, rfl, z⟩
  · rw [z, if_pos rfl] at iw iwM
    exact none0 0 0 (by simp only [m_Home_act, q10, bind_some', cv0, cl, cvc, iw, n0, if_true]) (by simp only [m_Model_act, mw, bind_some', cvM, iwM, n0, if_true])
  rw [z] at iw iwM
  have e0 : ((some wy : Option Nat) = none) = False := by simp
  simp only [e0, if_false] at iw iwM
  have wi := M_wX (h := zup (zup h 643 (AE 0 a0 b0)) 670 (MO (upd m 27 (nI 0)))) (x := y) (b := 3) (hi := 3) rfl (by omega)
  rcases ix_cases y 4 (by omega) with ⟨z2, c2⟩ | ⟨t, ht, rfl, z2⟩
  · have wi : m_Model_within y.toInt64 0 3 (zup (zup h 643 (AE 0 a0 b0)) 670 (MO (upd m 27 (nI 0)))) = some (nI 0) := by rw [wi, show 3 + 1 = 4 from rfl, z2]; rfl
    refine none0 0 0 ?_ (by simp only [m_Model_act, mw, bind_some', cvM, iwM, n1, if_false, wi, n0, if_true])
    by_cases y0 : y < 0
    · simp only [m_Home_act, q10, bind_some', cv0, cl, cvc, iw, n1, if_false, eq_true y0, if_true]
    · simp only [m_Home_act, q10, bind_some', cv0, cl, cvc, iw, n1, if_false, eq_false y0, eq_false (Int32.not_lt.mpr (c2.resolve_left y0))]
  have wi : m_Model_within (nI t).toInt64 0 3 (zup (zup h 643 (AE 0 a0 b0)) 670 (MO (upd m 27 (nI 0)))) = some (nI 1) := by rw [wi, show 3 + 1 = 4 from rfl, z2]; rfl
  obtain ⟨K, hK, ekd⟩ := kk wy hwy
  have l18 : zaI (zup h 643 (AE 0 a0 b0)) 18 (nI wy) = some (nI K) := by rw [zaI, zA32_ne (by omega), zA32_of k18 (by omega) (by omega), ekd]
  -- the abstract act
  have aP' : ∃ P : Int32 × tT, P.2.2 ≤ 15 ∧ (∀ hh, m_Acts_perform 40 643 (nI K) (nI t) v (nI 0) (aH hh (nI K) (nI wy) (tr, 0)) = some (P.1, aH hh (nI K) (nI wy) P.2)) ∧ ∀ hh mm, hh 674 = zI32 10 Kf → mm 28 = nI wy → (if nI t = 0 then m_Model_sends 40 670 (nI K) v (mA hh mm (tr, 0)) else if nI t = nI 1 then m_Model_asksOf 40 670 (nI K) v (mA hh mm (tr, 0)) else if nI t = nI 2 then m_Model_owes 40 670 (nI K) v (mA hh mm (tr, 0)) else m_Model_tells 40 670 (nI K) v (mA hh mm (tr, 0))) = some (P.1, mA hh mm P.2) := by
    rcases (show t = 0 ∨ t = 1 ∨ t = 2 ∨ t = 3 by omega) with rfl | rfl | rfl | rfl
    · refine ⟨sP (nI wy) K v (tr, 0), Nat.le_trans sP_n (by show 0 + 2 ≤ _; omega), fun hh => C_sends hK (f := 38) (by omega) (by show 0 < _; omega) v, fun hh mm q1 q2 => ?_⟩
      rw [if_pos nI_0]
      exact M_sends hK q2 (by show 0 < _; omega) v
    · refine ⟨aP (nI wy) K K v (tr, 0), Nat.le_trans aP_n (by show 0 + 7 ≤ _; omega), fun hh => C_asks hK hK (f := 35) (by omega) (by show 0 < _; omega) v, fun hh mm q1 q2 => ?_⟩
      rw [if_neg (by rw [nI_eq0 (by omega)]; omega), if_pos rfl]
      exact M_asks hK hK q2 q1 (by omega) ekd (by show 0 < _; omega) v
    · refine ⟨oP (nI wy) K K v (tr, 0), Nat.le_trans oP_n (by show 0 + 5 ≤ _; omega), fun hh => C_owes hK hK (f := 35) (by omega) (by show 0 < _; omega) v, fun hh mm q1 q2 => ?_⟩
      rw [if_neg (by rw [nI_eq0 (by omega)]; omega), if_neg (nIne (by omega) (by omega) (by omega)), if_pos rfl]
      exact M_owes hK hK q2 q1 (by omega) ekd (by show 0 < _; omega) v
    · refine ⟨tP (nI wy) K K v (tr, 0), Nat.le_trans tP_n (by show 0 + 15 ≤ _; omega), fun hh => C_tells hK hK (f := 32) (by omega) (by show 0 < _; omega) v, fun hh mm q1 q2 => ?_⟩
      rw [if_neg (by rw [nI_eq0 (by omega)]; omega), if_neg (nIne (by omega) (by omega) (by omega)), if_neg (nIne (by omega) (by omega) (by omega))]
      exact M_tells hK hK q2 q1 (by omega) ekd (by show 0 < _; omega) v
  obtain ⟨P, P15, PC, PM⟩ := aP'
  -- the class
  have wk : zwI (zup h 643 (AE 0 a0 b0)) 643 0 2 (nI K) = some (zup h 643 (AE 0 (nI K) b0)) := by
    have w := zwI_of (h := zup h 643 (AE 0 a0 b0)) (a := 643) (c := 0) (j := 2) (fs := [.ref 644, .int (nI 0), .int a0, .int b0]) (x := nI K) (zup_eq _ _ _) (by simp)
    rw [zup_zup] at w
    exact w
  have wn : zwI (zup h 643 (AE 0 (nI K) b0)) 643 0 3 (nI wy) = some (zup h 643 (AE 0 (nI K) (nI wy))) := by
    have w := zwI_of (h := zup h 643 (AE 0 (nI K) b0)) (a := 643) (c := 0) (j := 3) (fs := [.ref 644, .int (nI 0), .int (nI K), .int b0]) (x := nI wy) (zup_eq _ _ _) (by simp)
    rw [zup_zup] at w
    exact w
  have rk : zrI (zup h 643 (AE 0 (nI K) (nI wy))) 643 0 2 = some (nI K) := zrI_of (zup_eq _ _ _) rfl
  have eaH : zup h 643 (AE 0 (nI K) (nI wy)) = aH h (nI K) (nI wy) (tr, 0) := by
    unfold aH
    rw [zup_self t1]
  have cvA2 : ∀ {α : Type} (o : Option α), zcv (zup h 643 (AE 0 (nI K) (nI wy))) 643 0 o = o := fun o => zcv_of (zcls_of (zup_eq _ _ _))
  have PC' := PC h
  rw [← eaH] at PC'
  have beg : m_Acts_begin 643 (nI K) (nI wy) (nI t) v (zup h 643 (AE 0 a0 b0)) = some (P.1, aH h (nI K) (nI wy) P.2) := by
    simp only [m_Acts_begin, wk, bind_some', wn, rk, cvA2, PC', zb2_some]
  have t0 : (nI t < 0) = False := nI_lt0 (by omega)
  have t4 : (nI t < nI 4) = True := eq_true ((nI_ltI (by omega) (by omega)).mpr ht)
  have eC : m_Home_act 0 (nI wy) (nI t) v h = some (P.1, aH h (nI K) (nI wy) P.2) := by
    simp only [m_Home_act, q10, bind_some', cv0, cl, cvc, iw, n1, if_false, t0, t4, if_true, q10c, q3c, l18, cvA, beg, zb2_some]
  -- the model, from the class's heap
  have hmA : aH h (nI K) (nI wy) P.2 670 = MO m := by unfold aH; rw [zup_ne (by omega), zup_ne (by omega)]; exact hm
  have mwA : zwI (aH h (nI K) (nI wy) P.2) 670 7 27 (nI 0) = some (zup (aH h (nI K) (nI wy) P.2) 670 (MO (upd m 27 (nI 0)))) := MO_wr _ m _ (by unfold mosc; omega) hmA
  have mw28 : zwI (zup (aH h (nI K) (nI wy) P.2) 670 (MO (upd m 27 (nI 0)))) 670 7 28 (nI wy) = some (zup (aH h (nI K) (nI wy) P.2) 670 (MO (upd (upd m 28 (nI wy)) 27 (nI 0)))) := by
    rw [MO_wr _ _ _ (by unfold mosc; omega) (zup_eq _ _ _), zup_zup, upd_comm (by omega)]
  have eA2 : zup (aH h (nI K) (nI wy) P.2) 670 (MO (upd (upd m 28 (nI wy)) 27 (nI 0))) = mA (aH h (nI K) (nI wy) P.2) (upd m 28 (nI wy)) (tr, 0) := by
    have t2' : aH h (nI K) (nI wy) P.2 688 = zI32 24 tr := by unfold aH; rw [zup_ne (by omega), zup_ne (by omega)]; exact t2
    unfold mA
    rw [zup_self t2']
  have PM' := PM (aH h (nI K) (nI wy) P.2) (upd m 28 (nI wy)) (by unfold aH; rw [zup_ne (by omega), zup_ne (by omega)]; exact k674) (upd_eq _ _ _)
  have iwM2 := isWay_M (h := zup (aH h (nI K) (nI wy) P.2) 670 (MO (upd m 27 (nI 0)))) (zup_eq _ _ _) (by rw [upd_ne (by omega)]; exact m6) w10 (nI wy)
  rw [z] at iwM2
  simp only [e0, if_false] at iwM2
  have wi2 := M_wX (h := zup (aH h (nI K) (nI wy) P.2) 670 (MO (upd m 27 (nI 0)))) (x := nI t) (b := 3) (hi := 3) rfl (by omega)
  have wi2 : m_Model_within (nI t).toInt64 0 3 (zup (aH h (nI K) (nI wy) P.2) 670 (MO (upd m 27 (nI 0)))) = some (nI 1) := by rw [wi2, show 3 + 1 = 4 from rfl, z2]; rfl
  have cvM2 : ∀ {α : Type} (o : Option α), zcv (zup (aH h (nI K) (nI wy) P.2) 670 (MO (upd m 27 (nI 0)))) 670 7 o = o := fun o => MO_cv _ _ (zup_eq _ _ _) o
  have kk2 : zaI (mA (aH h (nI K) (nI wy) P.2) (upd m 28 (nI wy)) (tr, 0)) 674 (nI wy) = some (nI K) := mA_k (by unfold aH; rw [zup_ne (by omega), zup_ne (by omega)]; exact k674) (by omega) ekd
  have eM : m_Model_act 670 (nI wy) (nI t) v (aH h (nI K) (nI wy) P.2) = some (P.1, mA (aH h (nI K) (nI wy) P.2) (upd m 28 (nI wy)) P.2) := by
    rw [← PM']
    simp only [m_Model_act, mwA, bind_some', cvM2, iwM2, n1, if_false, wi2, mw28]
    rw [eA2]
    simp only [mA_5, bind_some', kk2, mA_cv, zb2_id]
  refine ⟨P.1, _, _, eC, eM, ⟨P.2.2, ?_⟩, fun k a c => ?_⟩
  · have q : ∀ (mm : Nat → Int32) (k : Nat), k ≠ 643 → k ≠ 644 → k ≠ 670 → k ≠ 688 → mA (aH h (nI K) (nI wy) P.2) mm P.2 k = h k := fun mm k a b c d => by
      unfold mA aH
      rw [zup_ne c, zup_ne d, zup_ne a, zup_ne b]
    refine ⟨⟨by rw [q _ 0 (by omega) (by omega) (by omega) (by omega)]; exact h0, _, mA_670, ?_, ?_, ?_, ?_, upd_eq _ _ _⟩, cT.fr fun k y => q _ k (by omega) (by omega) (by omega) (by omega), cH.fr fun k y => q _ k (by omega) (by omega) (by omega) (by omega), cKinds.fr ⟨w10, k18, k674, kk⟩ fun k y => q _ k (by omega) (by omega) (by omega) (by omega), cR.fr fun k y => q _ k (by omega) (by omega) (by omega) (by omega), cS.fr fun k y => q _ k (by omega) (by omega) (by omega) (by omega), cC.fr fun k y => q _ k (by omega) (by omega) (by omega) (by omega), ⟨by omega, ⟨nI K, nI wy, ?_⟩, P.2.1, ?_, ?_⟩, cX.fr fun k y => q _ k (by omega) (by omega) (by omega) (by omega)⟩
    · rw [upd_ne (by omega), upd_ne (by omega)]; exact m1
    · rw [upd_ne (by omega), upd_ne (by omega)]; exact m4
    · rw [upd_ne (by omega), upd_ne (by omega)]; exact m6
    · rw [upd_ne (by omega), upd_ne (by omega)]; exact m19
    · unfold mA
      rw [zup_ne (by omega), zup_ne (by omega)]
      exact aH_643
    · unfold mA aH
      rw [zup_ne (by omega), zup_ne (by omega), zup_ne (by omega), zup_eq]
    · unfold mA
      rw [zup_ne (by omega), zup_eq]
  · unfold mA aH
    rw [zup_ne (by omega), zup_ne (by omega), zup_ne (by omega), zup_ne (by omega)]
theorem f_trace (B : BAS n X Le tl w rb ran Kf b h) (x : Int32) : ∃ r, m_Home_trace 0 x h = some r ∧ m_Model_trace 670 x h = some r := by
  obtain ⟨⟨h0, m, hm, m1, m4, m6, m19, m27⟩, cT, cH, cK, cR, cS, cC, ⟨rn, ⟨a0, b0, e643⟩, tr, t1, t2⟩, cX⟩ := id B
  obtain ⟨-, -, -, -, q3, -, -, -, -, -, -, q10, -⟩ := HO_rd h0
  have cv0 : ∀ {α : Type} (o : Option α), zcv h 643 0 o = o := fun o => zcv_of (zcls_of e643)
  have r1 : zrI h 643 0 1 = some (nI ran) := zrI_of e643 rfl
  have r0 : zrR h 643 0 0 = some 644 := zrR_of e643 rfl
  have p1 : zrI h 670 7 27 = some (nI ran) := by rw [MO_rd h m (by unfold mosc; omega) hm, m27]
  have p0 : zrR h 670 7 26 = some 688 := (MO_ref _ _ hm).2.2.2.2.2.2.2.2.2.2.2.2.2.2.2.2.2.1
  by_cases c0 : x < 0
  · exact ⟨-1, by simp only [m_Home_trace, q10, bind_some', cv0, m_Acts_traced, eq_true c0, if_true], by simp only [m_Model_trace, eq_true c0, if_true]⟩
  · by_cases c1 : nI ran ≤ x
    · exact ⟨-1, by simp only [m_Home_trace, q10, bind_some', cv0, m_Acts_traced, eq_false c0, if_false, r1, eq_true c1, if_true], by simp only [m_Model_trace, eq_false c0, if_false, p1, bind_some', eq_true c1, if_true]⟩
    · by_cases c2 : nI 24 ≤ x
      · exact ⟨-1, by simp only [m_Home_trace, q10, bind_some', cv0, m_Acts_traced, eq_false c0, if_false, r1, eq_false c1, eq_true c2, if_true], by simp only [m_Model_trace, eq_false c0, if_false, p1, bind_some', eq_false c1, eq_true c2, if_true]⟩
      · obtain ⟨j, hj, rfl⟩ := nI_of c0
        have j24 : j < 24 := by
          rcases Nat.lt_or_ge j 24 with q | q
          · exact q
          · exact absurd ((nI_leI (by omega) hj).mpr q) c2
        have l1 : zaI h 644 (nI j) = some (tr j) := zA32_of t1 j24 (by omega)
        have l2 : zaI h 688 (nI j) = some (tr j) := zA32_of t2 j24 (by omega)
        exact ⟨tr j, by simp only [m_Home_trace, q10, bind_some', cv0, m_Acts_traced, eq_false c0, if_false, r1, eq_false c1, eq_false c2, r0, l1], by simp only [m_Model_trace, eq_false c0, if_false, p1, bind_some', eq_false c1, eq_false c2, p0, l2]⟩
end CALLS6
