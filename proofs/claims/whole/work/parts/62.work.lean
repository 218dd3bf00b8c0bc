/-! ALL ORDERS, BOTH SIDES: works -/
def wA (g g' : Nat → Int32) : Prop := ∀ c, c < 35 → g c = g' c
def hasW (G : Nat → Nat → Int32) (s : Nat) : Prop := ∃ t, t < s ∧ wA (G s) (G t)
noncomputable def unw (G : Nat → Nat → Int32) : Nat → Nat
  | 0 => 0
  | k + 1 => unw G k + @ite _ (hasW G k) (Classical.propDecidable _) 0 1
theorem unw_1 {G : Nat → Nat → Int32} {k : Nat} (q : hasW G k) : unw G (k + 1) = unw G k := congrArg (unw G k + ·) (@if_pos _ (Classical.propDecidable _) q _ _ _)
theorem unw_0 {G : Nat → Nat → Int32} {k : Nat} (q : ¬ hasW G k) : unw G (k + 1) = unw G k + 1 := congrArg (unw G k + ·) (@if_neg _ (Classical.propDecidable _) q _ _ _)
theorem unw_le {G : Nat → Nat → Int32} : ∀ k, unw G k ≤ k := by
  intro k
  induction k with
  | zero => exact Nat.le_refl _
  | succ k ih =>
    by_cases q : hasW G k
    · rw [unw_1 q]; omega
    · rw [unw_0 q]; omega
section WC'
variable {h : zH} {o kd n : Nat} {b : bT} {sp : Nat → Int32} {ex : Int32}
theorem s_w17 (O : ORB o kd b sp ex h) (K : bOK kd n b) {s : Nat} (hs : s < bSz b) {cn : Nat} (hcn : cn ≤ 1000) (k4 : (Int32 × Int32) → Option Int32) : ∀ (d t f : Nat), s - t = d → t ≤ s → d + 1 < f → (∀ u, u < t → ¬ wA (bG b s) (bG b u)) → ∃ x : Nat, zloop (g_Orders_unlikeWorks_17 o (nI cn) (nI s) h k4) f (nI 1, nI t) = k4 (nI (cn + x), nI (s + 1)) ∧ ((x = 0 ∧ hasW (bG b) s) ∨ (x = 1 ∧ ¬ hasW (bG b) s)) := by
  have h150 := K.2.1
  have n1 := nI1_0
  have n0 := nI0_0
  obtain ⟨-, -, r2, -, -, -, -, -, -, -, -, r11, -, -⟩ := OE_rd O.1
  intro d
  induction d with
  | zero =>
    intro t f hd ht hf hz
    obtain ⟨f, rfl⟩ : ∃ k, f = k + 1 := ⟨f - 1, by omega⟩
    refine ⟨1, ?_, Or.inr ⟨rfl, fun ⟨u, hu, a⟩ => hz u (by omega) a⟩⟩
    have c : (s ≤ t) = True := eq_true (by omega)
    show g_Orders_unlikeWorks_17 o (nI cn) (nI s) h k4 _ (nI 1, nI t) = _
    simp (disch := omega) only [g_Orders_unlikeWorks_17, nI_le_iff, c, if_true, g_Orders_unlikeWorks_60, n1, if_false, nI_add]
  | succ d ih =>
    intro t f hd ht hf hz
    obtain ⟨f, rfl⟩ : ∃ k, f = k + 1 := ⟨f - 1, by omega⟩
    have c : (s ≤ t) = False := eq_false (by omega)
    obtain ⟨eR, eG⟩ := O.row (s := s) hs h150
    obtain ⟨eR', eG'⟩ := O.row (s := t) (by omega) h150
    obtain ⟨x, ex, q⟩ := s_alk (m := 35) (by omega) eG eG'
    rcases q with ⟨rfl, q⟩ | ⟨rfl, q⟩
    · have st : zloop (g_Orders_unlikeWorks_17 o (nI cn) (nI s) h k4) (f + 1) (nI 1, nI t) = zloop (g_Orders_unlikeWorks_17 o (nI cn) (nI s) h k4) f (nI 0, nI (t + 1)) := by
        show g_Orders_unlikeWorks_17 o (nI cn) (nI s) h k4 _ (nI 1, nI t) = _
        simp (disch := omega) only [g_Orders_unlikeWorks_17, nI_le_iff, c, if_false, n1, r2, bind_some', eR, eR', ex, nI_add]
      rw [st]
      obtain ⟨f, rfl⟩ : ∃ k, f = k + 1 := ⟨f - 1, by omega⟩
      refine ⟨0, ?_, Or.inl ⟨rfl, t, by omega, q⟩⟩
      show g_Orders_unlikeWorks_17 o (nI cn) (nI s) h k4 _ (nI 0, nI (t + 1)) = _
      by_cases c2 : s ≤ t + 1
      · simp (disch := omega) only [g_Orders_unlikeWorks_17, nI_le_iff, eq_true c2, if_true, g_Orders_unlikeWorks_60, n0, nI_add]
      · simp (disch := omega) only [g_Orders_unlikeWorks_17, nI_le_iff, eq_false c2, if_false, if_true, g_Orders_unlikeWorks_60, n0, nI_add]
    · obtain ⟨x, e, D⟩ := ih (t + 1) f (by omega) (by omega) (by omega) (fun u hu => (Nat.lt_or_ge u t).elim (hz u) (fun w => by rw [show u = t by omega]; exact q))
      refine ⟨x, ?_, D⟩
      rw [← e]
      show g_Orders_unlikeWorks_17 o (nI cn) (nI s) h k4 _ (nI 1, nI t) = _
      simp (disch := omega) only [g_Orders_unlikeWorks_17, nI_le_iff, c, if_false, n1, r2, bind_some', eR, eR', ex, n0, if_true, nI_add]
theorem s_w4 (O : ORB o kd b sp ex h) (K : bOK kd n b) : ∀ (d s f : Nat), bSz b - s = d → s ≤ bSz b → d < f → zloop (g_Orders_unlikeWorks_4 o h) f (nI (unw (bG b) s), nI s) = some (nI (unw (bG b) (bSz b))) := by
  have h150 := K.2.1
  have zz := zN_big
  obtain ⟨-, -, r2, -, -, -, -, -, -, -, -, r11, -, -⟩ := OE_rd O.1
  intro d
  induction d with
  | zero =>
    intro s f hd hs hf
    obtain ⟨f, rfl⟩ : ∃ k, f = k + 1 := ⟨f - 1, by omega⟩
    obtain rfl : s = bSz b := by omega
    show g_Orders_unlikeWorks_4 o h _ (nI (unw (bG b) (bSz b)), nI (bSz b)) = _
    have c : (bSz b ≤ bSz b) = True := eq_true (Nat.le_refl _)
    simp (disch := omega) only [g_Orders_unlikeWorks_4, r11, bind_some', nI_le_iff, c, if_true]
  | succ d ih =>
    intro s f hd hs hf
    obtain ⟨f, rfl⟩ : ∃ k, f = k + 1 := ⟨f - 1, by omega⟩
    have c : (bSz b ≤ s) = False := eq_false (by omega)
    have ul := unw_le (G := bG b) s
    obtain ⟨x, e, D⟩ := s_w17 O K (show s < bSz b by omega) (cn := unw (bG b) s) (by omega) (zloop (g_Orders_unlikeWorks_4 o h) f) s 0 zN rfl (by omega) (by omega) (fun u hu => by omega)
    have e2 : unw (bG b) s + x = unw (bG b) (s + 1) := by
      rcases D with ⟨rfl, q⟩ | ⟨rfl, q⟩
      · rw [unw_1 q, Nat.add_zero]
      · rw [unw_0 q]
    rw [← ih (s + 1) f (by omega) (by omega) (by omega), ← e2, ← e]
    show g_Orders_unlikeWorks_4 o h _ (nI (unw (bG b) s), nI s) = _
    simp (disch := omega) only [g_Orders_unlikeWorks_4, r11, bind_some', nI_le_iff, c, if_false]
theorem s_works (O : ORB o kd b sp ex h) (K : bOK kd n b) : m_Orders_unlikeWorks o h = some (nI (unw (bG b) (bSz b))) := by
  have zz := zN_big
  have h150 := K.2.1
  exact s_w4 O K (bSz b) 0 zN rfl (by omega) (by omega)
end WC'
def FL (x : Nat) (P : Prop) : Prop := (x = 1 ∧ P) ∨ (x = 0 ∧ ¬ P)
theorem FL.cg {x : Nat} {P Q : Prop} (h : FL x P) (e : P ↔ Q) : FL x Q := h.imp (fun a => ⟨a.1, e.mp a.2⟩) (fun a => ⟨a.1, fun q => a.2 (e.mpr q)⟩)
section WM
variable {h : zH} {n kd : Nat} {b : bT} {m0 m r F A B C L : Nat → Int32}
theorem MOX.F' (X : MOX m0 n kd b m r F A B C L h) (hb : bBig b = false) {s k : Nat} (h150 : bSz b ≤ 150) (hs : s < bSz b) (hk : k < 91) : zaI h 683 (nI (91 * s + k)) = some (ph (fmo kd) n (bG b s) k) := by
  obtain ⟨a12, -⟩ := X.2.2.2.2.2.2.2.2.2.2.2 hb
  rw [zaI, zA32_of X.2.2.2.2.2.2.1 (by omega) (by omega), (a12 s hs).1 k hk]
theorem M_w55 (X : MOX m0 n kd b m r F A B C L h) (hb : bBig b = false) (h150 : bSz b ≤ 150) {s t hh : Nat} (hs : s < bSz b) (ht : t < bSz b) (h6 : hh < 6) (k43 : (Int32 × Int32) → Option Int32) : ∀ (d k f x : Nat) (P : Prop), 3 - k = d → k ≤ 3 → d < f → FL x P → ∃ x', zloop (g_Model_worksAlike_55 670 (nI (91 * s)) (nI (91 * t)) (nI hh) h k43) f (nI x, nI k) = k43 (nI x', nI (hh + 1)) ∧ FL x' (P ∧ ∀ j, k ≤ j → j < 3 → ph (fmo kd) n (bG b s) (6 * hh + j) = ph (fmo kd) n (bG b t) (6 * hh + j)) := by
  have n1 := nI1_0
  have n0 := nI0_0
  obtain ⟨-, r20, -⟩ := Mo_rf X.1
  intro d
  induction d with
  | zero =>
    intro k f x P hd hk hf q
    obtain ⟨f, rfl⟩ : ∃ k, f = k + 1 := ⟨f - 1, by omega⟩
    refine ⟨x, ?_, q.cg ⟨fun p => ⟨p, fun j a b => by omega⟩, fun p => p.1⟩⟩
    have c : (2 < k) = True := eq_true (by omega)
    show g_Model_worksAlike_55 670 (nI (91 * s)) (nI (91 * t)) (nI hh) h k43 _ (nI x, nI k) = _
    simp (disch := omega) only [g_Model_worksAlike_55, nI_lt_iff, c, if_true, nI_add]
  | succ d ih =>
    intro k f x P hd hk hf q
    obtain ⟨f, rfl⟩ : ∃ k, f = k + 1 := ⟨f - 1, by omega⟩
    have c : (2 < k) = False := eq_false (by omega)
    have l1 : zaI h 683 (nI (91 * s + 6 * hh + k)) = some (ph (fmo kd) n (bG b s) (6 * hh + k)) := by rw [Nat.add_assoc]; exact X.F' hb h150 hs (by omega)
    have l2 : zaI h 683 (nI (91 * t + 6 * hh + k)) = some (ph (fmo kd) n (bG b t) (6 * hh + k)) := by rw [Nat.add_assoc]; exact X.F' hb h150 ht (by omega)
    have spl : ∀ Q : Nat → Prop, (Q k ∧ ∀ j, k + 1 ≤ j → j < 3 → Q j) ↔ ∀ j, k ≤ j → j < 3 → Q j := fun Q => ⟨fun w j a b => (Nat.lt_or_ge k j).elim (fun y => w.2 j y b) (fun y => by rw [show j = k by omega]; exact w.1), fun w => ⟨w k (Nat.le_refl _) (by omega), fun j a b => w j (by omega) b⟩⟩
    rcases q with ⟨rfl, p⟩ | ⟨rfl, p⟩
    · by_cases e : ph (fmo kd) n (bG b s) (6 * hh + k) = ph (fmo kd) n (bG b t) (6 * hh + k)
      · obtain ⟨x', e1, q'⟩ := ih (k + 1) f 1 P (by omega) (by omega) (by omega) (Or.inl ⟨rfl, p⟩)
        refine ⟨x', ?_, q'.cg ⟨fun w => ⟨w.1, (spl fun j => ph (fmo kd) n (bG b s) (6 * hh + j) = ph (fmo kd) n (bG b t) (6 * hh + j)).mp ⟨e, w.2⟩⟩, fun w => ⟨w.1, ((spl fun j => ph (fmo kd) n (bG b s) (6 * hh + j) = ph (fmo kd) n (bG b t) (6 * hh + j)).mpr w.2).2⟩⟩⟩
        rw [← e1]
        show g_Model_worksAlike_55 670 (nI (91 * s)) (nI (91 * t)) (nI hh) h k43 _ (nI 1, nI k) = _
        simp (disch := omega) only [g_Model_worksAlike_55, nI_lt_iff, c, if_false, n1, r20, bind_some', pk_mul, nI_add, l1, l2, eq_true e, if_true]
      · obtain ⟨x', e1, q'⟩ := ih (k + 1) f 0 False (by omega) (by omega) (by omega) (Or.inr ⟨rfl, fun w => w⟩)
        refine ⟨x', ?_, q'.cg ⟨fun w => w.1.elim, fun w => absurd (w.2 k (Nat.le_refl _) (by omega)) e⟩⟩
        rw [← e1]
        show g_Model_worksAlike_55 670 (nI (91 * s)) (nI (91 * t)) (nI hh) h k43 _ (nI 1, nI k) = _
        simp (disch := omega) only [g_Model_worksAlike_55, nI_lt_iff, c, if_false, n1, r20, bind_some', pk_mul, nI_add, l1, l2, eq_false e]
    · obtain ⟨x', e1, q'⟩ := ih (k + 1) f 0 P (by omega) (by omega) (by omega) (Or.inr ⟨rfl, p⟩)
      refine ⟨x', ?_, q'.cg ⟨fun w => absurd w.1 p, fun w => absurd w.1 p⟩⟩
      rw [← e1]
      show g_Model_worksAlike_55 670 (nI (91 * s)) (nI (91 * t)) (nI hh) h k43 _ (nI 0, nI k) = _
      simp (disch := omega) only [g_Model_worksAlike_55, nI_lt_iff, c, if_false, n0, if_true, nI_add]
theorem M_w43 (X : MOX m0 n kd b m r F A B C L h) (h4 : m0 4 = nI n) (n6 : n ≤ 6) (hb : bBig b = false) (h150 : bSz b ≤ 150) {s t : Nat} (hs : s < bSz b) (ht : t < bSz b) : ∀ (d hh f x : Nat) (P : Prop), n - hh = d → hh ≤ n → d < f → FL x P → ∃ x', zloop (g_Model_worksAlike_43 670 (nI (91 * s)) (nI (91 * t)) h) f (nI x, nI hh) = zloop (g_Model_worksAlike_122 670 (nI (91 * s)) (nI (91 * t)) h) zN (nI x', nI 0) ∧ FL x' (P ∧ ∀ u, hh ≤ u → u < n → ∀ j, j < 3 → ph (fmo kd) n (bG b s) (6 * u + j) = ph (fmo kd) n (bG b t) (6 * u + j)) := by
  have zz := zN_big
  have e4 : zrI h 670 7 4 = some (nI n) := by rw [MO_rd h m (by unfold mosc; omega) X.1, X.2.1 4 (by omega) (by omega) (by omega) (by omega) (by omega), h4]
  intro d
  induction d with
  | zero =>
    intro hh f x P hd hk hf q
    obtain ⟨f, rfl⟩ : ∃ k, f = k + 1 := ⟨f - 1, by omega⟩
    refine ⟨x, ?_, q.cg ⟨fun p => ⟨p, fun u a b => by omega⟩, fun p => p.1⟩⟩
    have c : (n ≤ hh) = True := eq_true (by omega)
    show g_Model_worksAlike_43 670 (nI (91 * s)) (nI (91 * t)) h _ (nI x, nI hh) = _
    simp (disch := omega) only [g_Model_worksAlike_43, e4, bind_some', nI_le_iff, c, if_true]
  | succ d ih =>
    intro hh f x P hd hk hf q
    obtain ⟨f, rfl⟩ : ∃ k, f = k + 1 := ⟨f - 1, by omega⟩
    have c : (n ≤ hh) = False := eq_false (by omega)
    obtain ⟨x1, e1, q1⟩ := M_w55 X hb h150 hs ht (show hh < 6 by omega) (zloop (g_Model_worksAlike_43 670 (nI (91 * s)) (nI (91 * t)) h) f) 3 0 zN x P rfl (by omega) (by omega) q
    obtain ⟨x2, e2, q2⟩ := ih (hh + 1) f x1 _ (by omega) (by omega) (by omega) q1
    refine ⟨x2, ?_, q2.cg ⟨fun w => ⟨w.1.1, fun u a b j hj => ?_⟩, fun w => ⟨⟨w.1, fun j _ hj => w.2 hh (Nat.le_refl _) (by omega) j hj⟩, fun u a b => w.2 u (by omega) b⟩⟩⟩
    · rw [← e2, ← e1]
      show g_Model_worksAlike_43 670 (nI (91 * s)) (nI (91 * t)) h _ (nI x, nI hh) = _
      simp (disch := omega) only [g_Model_worksAlike_43, e4, bind_some', nI_le_iff, c, if_false]
    · rcases Nat.lt_or_ge hh u with y | y
      · exact w.2 u y b j hj
      · rw [show u = hh by omega]
        exact w.1.2 j (Nat.zero_le _) hj
theorem M_w122 (X : MOX m0 n kd b m r F A B C L h) (hb : bBig b = false) (h150 : bSz b ≤ 150) {s t : Nat} (hs : s < bSz b) (ht : t < bSz b) : ∀ (d i f x : Nat) (P : Prop), 8 - i = d → i ≤ 8 → d < f → FL x P → ∃ x', zloop (g_Model_worksAlike_122 670 (nI (91 * s)) (nI (91 * t)) h) f (nI x, nI i) = some (nI x') ∧ FL x' (P ∧ ∀ u, i ≤ u → u < 8 → ph (fmo kd) n (bG b s) (37 + 3 * u) = ph (fmo kd) n (bG b t) (37 + 3 * u) ∧ ph (fmo kd) n (bG b s) (38 + 3 * u) = ph (fmo kd) n (bG b t) (38 + 3 * u)) := by
  have n1 := nI1_0
  have n0 := nI0_0
  obtain ⟨-, r20, -⟩ := Mo_rf X.1
  intro d
  induction d with
  | zero =>
    intro i f x P hd hk hf q
    obtain ⟨f, rfl⟩ : ∃ k, f = k + 1 := ⟨f - 1, by omega⟩
    refine ⟨x, ?_, q.cg ⟨fun p => ⟨p, fun j a b => by omega⟩, fun p => p.1⟩⟩
    have c : (8 ≤ i) = True := eq_true (by omega)
    show g_Model_worksAlike_122 670 (nI (91 * s)) (nI (91 * t)) h _ (nI x, nI i) = _
    rcases q with ⟨rfl, -⟩ | ⟨rfl, -⟩
    · simp (disch := omega) only [g_Model_worksAlike_122, nI_le_iff, c, if_true, zbl_1]
    · simp (disch := omega) only [g_Model_worksAlike_122, nI_le_iff, c, if_true, zbl_0]
  | succ d ih =>
    intro i f x P hd hk hf q
    obtain ⟨f, rfl⟩ : ∃ k, f = k + 1 := ⟨f - 1, by omega⟩
    have c : (8 ≤ i) = False := eq_false (by omega)
    have l1 : zaI h 683 (nI (91 * s + 36 + 1 + 3 * i)) = some (ph (fmo kd) n (bG b s) (37 + 3 * i)) := by rw [show 91 * s + 36 + 1 + 3 * i = 91 * s + (37 + 3 * i) by omega]; exact X.F' hb h150 hs (by omega)
    have l2 : zaI h 683 (nI (91 * t + 36 + 1 + 3 * i)) = some (ph (fmo kd) n (bG b t) (37 + 3 * i)) := by rw [show 91 * t + 36 + 1 + 3 * i = 91 * t + (37 + 3 * i) by omega]; exact X.F' hb h150 ht (by omega)
    have l3 : zaI h 683 (nI (91 * s + 36 + 2 + 3 * i)) = some (ph (fmo kd) n (bG b s) (38 + 3 * i)) := by rw [show 91 * s + 36 + 2 + 3 * i = 91 * s + (38 + 3 * i) by omega]; exact X.F' hb h150 hs (by omega)
    have l4 : zaI h 683 (nI (91 * t + 36 + 2 + 3 * i)) = some (ph (fmo kd) n (bG b t) (38 + 3 * i)) := by rw [show 91 * t + 36 + 2 + 3 * i = 91 * t + (38 + 3 * i) by omega]; exact X.F' hb h150 ht (by omega)
    have spl : ∀ Q : Nat → Prop, (Q i ∧ ∀ j, i + 1 ≤ j → j < 8 → Q j) ↔ ∀ j, i ≤ j → j < 8 → Q j := fun Q => ⟨fun w j a b => (Nat.lt_or_ge i j).elim (fun y => w.2 j y b) (fun y => by rw [show j = i by omega]; exact w.1), fun w => ⟨w i (Nat.le_refl _) (by omega), fun j a b => w j (by omega) b⟩⟩
    rcases q with ⟨rfl, p⟩ | ⟨rfl, p⟩
    · by_cases e : ph (fmo kd) n (bG b s) (37 + 3 * i) = ph (fmo kd) n (bG b t) (37 + 3 * i) ∧ ph (fmo kd) n (bG b s) (38 + 3 * i) = ph (fmo kd) n (bG b t) (38 + 3 * i)
      · obtain ⟨x', e1, q'⟩ := ih (i + 1) f 1 P (by omega) (by omega) (by omega) (Or.inl ⟨rfl, p⟩)
        refine ⟨x', ?_, q'.cg ⟨fun w => ⟨w.1, (spl _).mp ⟨e, w.2⟩⟩, fun w => ⟨w.1, ((spl fun j => ph (fmo kd) n (bG b s) (37 + 3 * j) = ph (fmo kd) n (bG b t) (37 + 3 * j) ∧ ph (fmo kd) n (bG b s) (38 + 3 * j) = ph (fmo kd) n (bG b t) (38 + 3 * j)).mpr w.2).2⟩⟩⟩
        rw [← e1]
        show g_Model_worksAlike_122 670 (nI (91 * s)) (nI (91 * t)) h _ (nI 1, nI i) = _
        simp (disch := omega) only [g_Model_worksAlike_122, nI_le_iff, c, if_false, n1, r20, bind_some', pk_mul, nI_add, l1, l2, l3, l4, eq_true e.1, eq_true e.2, if_true]
      · obtain ⟨x', e1, q'⟩ := ih (i + 1) f 0 False (by omega) (by omega) (by omega) (Or.inr ⟨rfl, fun w => w⟩)
        refine ⟨x', ?_, q'.cg ⟨fun w => w.1.elim, fun w => absurd (w.2 i (Nat.le_refl _) (by omega)) e⟩⟩
        rw [← e1]
        show g_Model_worksAlike_122 670 (nI (91 * s)) (nI (91 * t)) h _ (nI 1, nI i) = _
        by_cases ea : ph (fmo kd) n (bG b s) (37 + 3 * i) = ph (fmo kd) n (bG b t) (37 + 3 * i)
        · have eb : ¬ ph (fmo kd) n (bG b s) (38 + 3 * i) = ph (fmo kd) n (bG b t) (38 + 3 * i) := fun w => e ⟨ea, w⟩
          simp (disch := omega) only [g_Model_worksAlike_122, nI_le_iff, c, if_false, n1, r20, bind_some', pk_mul, nI_add, l1, l2, l3, l4, eq_true ea, eq_false eb, if_true]
        · simp (disch := omega) only [g_Model_worksAlike_122, nI_le_iff, c, if_false, n1, r20, bind_some', pk_mul, nI_add, l1, l2, eq_false ea]
    · obtain ⟨x', e1, q'⟩ := ih (i + 1) f 0 P (by omega) (by omega) (by omega) (Or.inr ⟨rfl, p⟩)
      refine ⟨x', ?_, q'.cg ⟨fun w => absurd w.1 p, fun w => absurd w.1 p⟩⟩
      rw [← e1]
      show g_Model_worksAlike_122 670 (nI (91 * s)) (nI (91 * t)) h _ (nI 0, nI i) = _
      simp (disch := omega) only [g_Model_worksAlike_122, nI_le_iff, c, if_false, n0, if_true, nI_add]
theorem M_alike (X : MOX m0 n kd b m r F A B C L h) (h4 : m0 4 = nI n) (n6 : n ≤ 6) (hb : bBig b = false) (K : bOK kd n b) {s t : Nat} (hs : s < bSz b) (ht : t < bSz b) : ∃ x : Nat, m_Model_worksAlike 670 (nI s) (nI t) h = some (nI x) ∧ FL x (wA (bG b s) (bG b t)) := by
  have zz := zN_big
  have h150 := K.2.1
  obtain ⟨V, Z, -⟩ := K.2.2.1 s hs
  obtain ⟨V', Z', -⟩ := K.2.2.1 t ht
  obtain ⟨-, r20, -⟩ := Mo_rf X.1
  have l1 : zaI h 683 (nI (91 * s + 36)) = some (bG b s 18) := by rw [X.F' hb h150 hs (by omega), ph_rd pm_c.1]
  have l2 : zaI h 683 (nI (91 * t + 36)) = some (bG b t 18) := by rw [X.F' hb h150 ht (by omega), ph_rd pm_c.1]
  obtain ⟨x0, e0, q0⟩ : ∃ x0 : Nat, m_Model_worksAlike 670 (nI s) (nI t) h = zloop (g_Model_worksAlike_43 670 (nI (91 * s)) (nI (91 * t)) h) zN (nI x0, nI 0) ∧ FL x0 (bG b s 18 = bG b t 18) := by
    by_cases e : bG b s 18 = bG b t 18
    · refine ⟨1, ?_, Or.inl ⟨rfl, e⟩⟩
      simp only [m_Model_worksAlike, r20, bind_some', pk_mul, nI_add, l1, l2, eq_true e, if_true]
    · refine ⟨0, ?_, Or.inr ⟨rfl, e⟩⟩
      simp only [m_Model_worksAlike, r20, bind_some', pk_mul, nI_add, l1, l2, eq_false e, if_false]
  obtain ⟨x1, e1, q1⟩ := M_w43 X h4 n6 hb h150 hs ht n 0 zN x0 _ rfl (by omega) (by omega) q0
  obtain ⟨x2, e2, q2⟩ := M_w122 X hb h150 hs ht 8 0 zN x1 _ rfl (by omega) (by omega) q1
  refine ⟨x2, by rw [e0, e1, e2], q2.cg ⟨fun ⟨⟨w1, w2⟩, w3⟩ c hc => ?_, fun w => ⟨⟨w 18 (by omega), fun u _ hu j hj => ?_⟩, fun u _ hu => ?_⟩⟩⟩
  · have hut : ∀ u, u < n → bG b s u = bG b t u ∧ bG b s (6 + u) = bG b t (6 + u) ∧ bG b s (12 + u) = bG b t (12 + u) := fun u hu => by
      have a0 := w2 u (Nat.zero_le _) hu 0 (by omega)
      have a1 := w2 u (Nat.zero_le _) hu 1 (by omega)
      have a2 := w2 u (Nat.zero_le _) hu 2 (by omega)
      have p00 : pm (fmo kd) n (6 * u + 0) = some u := pm0 (by omega)
      rw [ph_rd p00, ph_rd p00] at a0
      rw [ph_rd (pm1 (by omega)), ph_rd (pm1 (by omega))] at a1
      rw [ph_rd (pm2 (by omega)), ph_rd (pm2 (by omega))] at a2
      exact ⟨a0, a1, a2⟩
    have wrd : ∀ u, u < 8 → bG b s (19 + u) = bG b t (19 + u) ∧ bG b s (27 + u) = bG b t (27 + u) := fun u hu => by
      obtain ⟨a0, a1⟩ := w3 u (Nat.zero_le _) hu
      have p0 : pm (fmo kd) n (37 + 3 * u) = some (19 + u) := pmW (t := 0) hu (by omega)
      have p1 : pm (fmo kd) n (38 + 3 * u) = some (27 + u) := by
        have := pmW (fm := fmo kd) (n := n) (t := 1) hu (by omega)
        rw [show 37 + 3 * u + 1 = 38 + 3 * u by omega] at this
        exact this
      rw [ph_rd p0, ph_rd p0] at a0
      rw [ph_rd p1, ph_rd p1] at a1
      exact ⟨a0, a1⟩
    rcases Nat.lt_or_ge c 18 with c18 | c18
    · obtain ⟨u, k, hu, hk, rfl⟩ : ∃ u k, u < 6 ∧ k < 3 ∧ c = 6 * k + u := ⟨c % 6, c / 6, by omega, by omega, by omega⟩
      rcases Nat.lt_or_ge u n with un | un
      · obtain ⟨a0, a1, a2⟩ := hut u un
        rcases (show k = 0 ∨ k = 1 ∨ k = 2 by omega) with rfl | rfl | rfl
        · rw [show 6 * 0 + u = u by omega]; exact a0
        · exact a1
        · exact a2
      · obtain ⟨z1, z2⟩ := Z u un hu
        obtain ⟨z1', z2'⟩ := Z' u un hu
        rcases (show k = 0 ∨ k = 1 ∨ k = 2 by omega) with rfl | rfl | rfl
        · rw [show 6 * 0 + u = u by omega, V.2.2.1.2.1 u un hu, V'.2.2.1.2.1 u un hu]
        · exact z1.trans z1'.symm
        · exact z2.trans z2'.symm
    · rcases Nat.lt_or_ge c 19 with c19 | c19
      · rw [show c = 18 by omega]; exact w1
      · rcases Nat.lt_or_ge c 27 with c27 | c27
        · obtain ⟨u, rfl⟩ : ∃ u, c = 19 + u := ⟨c - 19, by omega⟩
          exact (wrd u (by omega)).1
        · obtain ⟨u, rfl⟩ : ∃ u, c = 27 + u := ⟨c - 27, by omega⟩
          exact (wrd u (by omega)).2
  · rcases (show j = 0 ∨ j = 1 ∨ j = 2 by omega) with rfl | rfl | rfl
    · rw [show 6 * u + 0 = 6 * u by omega, ph_rd (pm0 (by omega)), ph_rd (pm0 (by omega))]; exact w _ (by omega)
    · rw [ph_rd (pm1 (by omega)), ph_rd (pm1 (by omega))]; exact w _ (by omega)
    · rw [ph_rd (pm2 (by omega)), ph_rd (pm2 (by omega))]; exact w _ (by omega)
  · have p0 : pm (fmo kd) n (37 + 3 * u) = some (19 + u) := pmW (t := 0) hu (by omega)
    have p1 : pm (fmo kd) n (38 + 3 * u) = some (27 + u) := by
      have := pmW (fm := fmo kd) (n := n) (t := 1) hu (by omega)
      rw [show 37 + 3 * u + 1 = 38 + 3 * u by omega] at this
      exact this
    rw [ph_rd p0, ph_rd p0, ph_rd p1, ph_rd p1]
    exact ⟨w _ (by omega), w _ (by omega)⟩
theorem M_wm17 (X : MOX m0 n kd b m r F A B C L h) (h4 : m0 4 = nI n) (n6 : n ≤ 6) (hb : bBig b = false) (K : bOK kd n b) {s : Nat} (hs : s < bSz b) {cn : Nat} (hcn : cn ≤ 1000) (k4 : (Int32 × Int32) → Option Int32) : ∀ (d t f x : Nat), s - t = d → t ≤ s → d < f → FL x (∀ u, u < t → ¬ wA (bG b s) (bG b u)) → ∃ x' : Nat, zloop (g_Model_workMany_17 670 (nI cn) (nI s) h k4) f (nI x, nI t) = k4 (nI (cn + x'), nI (s + 1)) ∧ FL x' (¬ hasW (bG b) s) := by
  have h150 := K.2.1
  have n1 := nI1_0
  have n0 := nI0_0
  have cv : ∀ {α : Type} (o : Option α), zcv h 670 7 o = o := fun o => MO_cv h m X.1 o
  intro d
  induction d with
  | zero =>
    intro t f x hd ht hf q
    obtain ⟨f, rfl⟩ : ∃ k, f = k + 1 := ⟨f - 1, by omega⟩
    obtain rfl : t = s := by omega
    refine ⟨x, ?_, q.cg ⟨fun w ⟨u, hu, a⟩ => w u hu a, fun w u hu a => w ⟨u, hu, a⟩⟩⟩
    have c : (t ≤ t) = True := eq_true (Nat.le_refl _)
    show g_Model_workMany_17 670 (nI cn) (nI t) h k4 _ (nI x, nI t) = _
    rcases q with ⟨rfl, -⟩ | ⟨rfl, -⟩
    · simp (disch := omega) only [g_Model_workMany_17, nI_le_iff, c, if_true, n1, if_false, nI_add]
    · simp (disch := omega) only [g_Model_workMany_17, nI_le_iff, c, if_true, n0, nI_add]
  | succ d ih =>
    intro t f x hd ht hf q
    obtain ⟨f, rfl⟩ : ∃ k, f = k + 1 := ⟨f - 1, by omega⟩
    have c : (s ≤ t) = False := eq_false (by omega)
    have spl : ∀ Q : Nat → Prop, (∀ u, u < t + 1 → Q u) ↔ ((∀ u, u < t → Q u) ∧ Q t) := fun Q => ⟨fun w => ⟨fun u hu => w u (by omega), w t (by omega)⟩, fun w u hu => (Nat.lt_or_ge u t).elim (w.1 u) (fun y => by rw [show u = t by omega]; exact w.2)⟩
    rcases q with ⟨rfl, p⟩ | ⟨rfl, p⟩
    · obtain ⟨y, ey, qy⟩ := M_alike X h4 n6 hb K hs (show t < bSz b by omega)
      rcases qy with ⟨rfl, qy⟩ | ⟨rfl, qy⟩
      · obtain ⟨x', e1, q'⟩ := ih (t + 1) f 0 (by omega) (by omega) (by omega) (Or.inr ⟨rfl, fun w => w t (by omega) qy⟩)
        refine ⟨x', ?_, q'⟩
        rw [← e1]
        show g_Model_workMany_17 670 (nI cn) (nI s) h k4 _ (nI 1, nI t) = _
        simp (disch := omega) only [g_Model_workMany_17, nI_le_iff, c, if_false, n1, cv, ey, bind_some', nI_add]
      · obtain ⟨x', e1, q'⟩ := ih (t + 1) f 1 (by omega) (by omega) (by omega) (Or.inl ⟨rfl, (spl fun u => ¬ wA (bG b s) (bG b u)).mpr ⟨p, qy⟩⟩)
        refine ⟨x', ?_, q'⟩
        rw [← e1]
        show g_Model_workMany_17 670 (nI cn) (nI s) h k4 _ (nI 1, nI t) = _
        simp (disch := omega) only [g_Model_workMany_17, nI_le_iff, c, if_false, n1, cv, ey, bind_some', n0, if_true, nI_add]
    · obtain ⟨x', e1, q'⟩ := ih (t + 1) f 0 (by omega) (by omega) (by omega) (Or.inr ⟨rfl, fun w => p fun u hu => w u (by omega)⟩)
      refine ⟨x', ?_, q'⟩
      rw [← e1]
      show g_Model_workMany_17 670 (nI cn) (nI s) h k4 _ (nI 0, nI t) = _
      simp (disch := omega) only [g_Model_workMany_17, nI_le_iff, c, if_false, n0, if_true, nI_add]
theorem M_wm4 (X : MOX m0 n kd b m r F A B C L h) (h4 : m0 4 = nI n) (n6 : n ≤ 6) (hb : bBig b = false) (K : bOK kd n b) : ∀ (d s f : Nat), bSz b - s = d → s ≤ bSz b → d < f → zloop (g_Model_workMany_4 670 h) f (nI (unw (bG b) s), nI s) = some (nI (unw (bG b) (bSz b))) := by
  have h150 := K.2.1
  have zz := zN_big
  have ez : mSz b = bSz b := if_neg (by rw [hb]; simp)
  have r25 : zrI h 670 7 25 = some (nI (bSz b)) := by rw [MO_rd _ m (by unfold mosc; omega) X.1, X.2.2.2.1, ez]
  intro d
  induction d with
  | zero =>
    intro s f hd hs hf
    obtain ⟨f, rfl⟩ : ∃ k, f = k + 1 := ⟨f - 1, by omega⟩
    obtain rfl : s = bSz b := by omega
    show g_Model_workMany_4 670 h _ (nI (unw (bG b) (bSz b)), nI (bSz b)) = _
    have c : (bSz b ≤ bSz b) = True := eq_true (Nat.le_refl _)
    simp (disch := omega) only [g_Model_workMany_4, r25, bind_some', nI_le_iff, c, if_true]
  | succ d ih =>
    intro s f hd hs hf
    obtain ⟨f, rfl⟩ : ∃ k, f = k + 1 := ⟨f - 1, by omega⟩
    have c : (bSz b ≤ s) = False := eq_false (by omega)
    have ul := unw_le (G := bG b) s
    obtain ⟨x, e, D⟩ := M_wm17 X h4 n6 hb K (show s < bSz b by omega) (cn := unw (bG b) s) (by omega) (zloop (g_Model_workMany_4 670 h) f) s 0 zN 1 rfl (by omega) (by omega) (Or.inl ⟨rfl, fun u hu => by omega⟩)
    have e2 : unw (bG b) s + x = unw (bG b) (s + 1) := by
      rcases D with ⟨rfl, q⟩ | ⟨rfl, q⟩
      · rw [unw_0 q]
      · rw [unw_1 (Classical.not_not.mp q), Nat.add_zero]
    rw [← ih (s + 1) f (by omega) (by omega) (by omega), ← e2, ← e]
    show g_Model_workMany_4 670 h _ (nI (unw (bG b) s), nI s) = _
    simp (disch := omega) only [g_Model_workMany_4, r25, bind_some', nI_le_iff, c, if_false]
theorem M_works (M : MOB m0 n kd b h) (h4 : m0 4 = nI n) (n6 : n ≤ 6) (hb : bBig b = false) (K : bOK kd n b) : m_Model_workMany 670 h = some (nI (unw (bG b) (bSz b))) := by
  have zz := zN_big
  have h150 := K.2.1
  obtain ⟨m, r, F, A, B, C, L, X⟩ := M
  exact M_wm4 X h4 n6 hb K (bSz b) 0 zN rfl (by omega) (by omega)
end WM
section WF
variable {h : zH} {n tl w rb ran b : Nat} {X : Nat → Nat → Nat} {Le : Nat → Nat} {Kf : Nat → Int32}
theorem f_fa (B : BAS n X Le tl w rb ran Kf b h) (hn : 0 < n) {kd : Nat} (k9 : kd < 9) : ∃ h' m, h 670 = MO m ∧ m 4 = nI n ∧ m_Model_findAll 670 (nI kd) h = some (if bBig (bfs kd n (nwF X Le) (goF X Le)) = true then -4 else nI 0, h') ∧ FRM h h' ∧ ((n ≤ 4 ∧ MOB m n kd (bfs kd n (nwF X Le) (goF X Le)) h') ∨ (4 < n ∧ h' = h)) := by
  obtain ⟨⟨h0, m, hm, m1, m4, m6, m19, m27⟩, cT, cH, -, -, -, cC, -⟩ := id B
  have HUh := cH.HU
  have hgo : ∀ hh, hh < n → ∀ l i, i < nwF X Le hh l → goF X Le hh l i < 6 := fun hh q l i qi => hu_go HUh q qi
  have hnw : ∀ hh, hh < n → ∀ l, nwF X Le hh l ≤ 270 := fun hh q l => hu_nw HUh q l
  obtain ⟨h', e1, fr, M⟩ := M_findAll (nw := nwF X Le) (go := goF X Le) ⟨hm, cC⟩ m4 k9 cH.1 hn hgo hnw cH.MU
  exact ⟨h', m, hm, m4, e1, fr, M⟩
theorem f_work (I : INV n X Le tl w rb ran Kf b h) (x y : Int32) : ∃ r h1 h2, m_Home_work 0 x y h = some (r, h1) ∧ m_Model_work 670 x y h1 = some (r, h2) ∧ INV n X Le tl w rb ran Kf b h2 := by
  have h0 := I.1.1.1
  obtain ⟨_, m, hm, m1, m4, m6, m19, m27⟩ := id I.1.1
  have w10 := I.1.2.2.2.1.1
  have n1 := nI1_0
  have n0 := nI0_0
  have cvh := fun {α : Type} (o : Option α) => HO_cv h0 o
  have cvm := fun {α : Type} (o : Option α) => MO_cv h m hm o
  have iw := isWay_M hm m6 w10 x
  have wi := M_wX (h := h) (x := y) (b := 1) (hi := 1) rfl (by omega)
  have bad : m_Model_isWay 670 x h = some (nI 0) ∨ m_Model_isWay 670 x h = some (nI 1) := by
    rw [iw]
    split
    · exact Or.inl rfl
    · exact Or.inr rfl
  rcases ix_cases y 2 (by omega) with ⟨z, q⟩ | ⟨t, ht, rfl, z⟩
  · rw [show 1 + 1 = 2 from rfl, z, if_pos rfl] at wi
    refine ⟨-1, h, h, ?_, ?_, I⟩
    · by_cases c : y < 0
      · simp only [m_Home_work, eq_true c, if_true]
      · have c2 : (y ≤ nI 1) = False := eq_false fun p => by
          have a := Int32.le_trans (q.resolve_left c) p
          have := (nI_leI (by omega) (by omega)).mp a
          omega
        simp only [m_Home_work, eq_false c, if_false, c2]
    · rcases bad with e | e
      · simp only [m_Model_work, cvm, e, bind_some', n0, if_true]
      · simp only [m_Model_work, cvm, e, bind_some', n1, if_false, wi, n0, if_true]
  · have t1 : (t ≤ 1) = True := eq_true (by omega)
    have e0 : ((some t : Option Nat) = none) = False := by simp
    obtain ⟨h1, fr1, B1, O1, O2, D⟩ := f_both I x
    obtain ⟨h01, mm, hmm, mm1, mm4, mm6, -⟩ := id B1.1
    have cvm1 := fun {α : Type} (o : Option α) => MO_cv h1 mm hmm o
    have iw1 := isWay_M hmm mm6 w10 x
    rcases D with ⟨v, h2, cv, e1, e2, I2, tr⟩ | ⟨s, kd, sp, zx, hn, n4, k9, zb, e1, OB, Q⟩
    · have wi1 := M_wX (h := h1) (x := nI t) (b := 1) (hi := 1) rfl (by omega)
      rw [show 1 + 1 = 2 from rfl, z] at wi1
      simp only [e0, if_false] at wi1
      rcases ex : ix x w with _ | s
      · rw [ex, if_pos rfl] at iw1
        have hv : m_Model_noOrders 670 x h1 = some (-1, h1) := by simp only [m_Model_noOrders, cvm1, iw1, bind_some', n0, if_true]
        rw [hv] at e2
        have hv : v = -1 := (congrArg Prod.fst (Option.some.inj e2)).symm
        subst hv
        obtain rfl := tr ex
        refine ⟨-1, h2, h2, ?_, ?_, I2⟩
        · simp (disch := omega) only [m_Home_work, nI_lt0, nI_le_iff, t1, if_false, if_true, cvh, e1, zb2_some, cv]
        · simp only [m_Model_work, cvm1, iw1, bind_some', n0, if_true]
      · rw [ex] at iw1
        have e0' : ((some s : Option Nat) = none) = False := by simp
        simp only [e0', if_false] at iw1
        refine ⟨v, h1, h2, ?_, ?_, I2⟩
        · simp (disch := omega) only [m_Home_work, nI_lt0, nI_le_iff, t1, if_false, if_true, cvh, e1, zb2_some, cv]
        · simp only [m_Model_work, cvm1, iw1, bind_some', n1, if_false, wi1, e2, zb2_some, cv]
    · have HUh := B1.2.2.1.HU
      have hnw : ∀ hh, hh < n → ∀ l, nwF X Le hh l ≤ 270 := fun hh q l => hu_nw HUh q l
      have KB : bOK kd n (bfs kd n (nwF X Le) (goF X Le)) := bfs_ok (go := goF X Le) (by omega) hn hnw
      have KB0 : bOK 0 n (bfs 0 n (nwF X Le) (goF X Le)) := bfs_ok (go := goF X Le) (by omega) hn hnw
      have e0' : ((some s : Option Nat) = none) = False := by simp
      have c1 : ((0 : Int32) ≤ nI 1) = True := by decide
      have c0 : ((0 : Int32) ≤ nI 0) = True := by decide
      have q9 := (HO_rd h01).2.2.2.2.2.2.2.2.2.1
      have q10 := (HO_rd h01).2.2.2.2.2.2.2.2.2.2.1
      have ws := s_works OB KB
      rcases (show t = 0 ∨ t = 1 by omega) with rfl | rfl
      · obtain ⟨h2, m', hm', m4', e2, fr2, M, B2⟩ := Q h1 fun _ _ => rfl
        rw [zx] at iw1
        simp only [e0', if_false] at iw1
        have wi1 := M_wX (h := h1) (x := nI 0) (b := 1) (hi := 1) rfl (by omega)
        rw [show 1 + 1 = 2 from rfl, z] at wi1
        simp only [e0, if_false] at wi1
        have wm := M_works M m4' (by omega) zb KB
        have cv2 := fun {α : Type} (o : Option α) => M.cv (α := α) o
        refine ⟨nI (unw (bG (bfs kd n (nwF X Le) (goF X Le))) (bSz (bfs kd n (nwF X Le) (goF X Le)))), h1, h2, ?_, ?_, B2, O1.fr fun k a c => fr2 k (by omega) (by omega) (by omega), O2.fr fun k a c => fr2 k (by omega) (by omega) (by omega)⟩
        · simp (disch := omega) only [m_Home_work, nI_lt0, nI_le_iff, t1, if_false, if_true, cvh, e1, zb2_some, c1, n0, q9, bind_some', OB.cvo, ws]
        · simp only [m_Model_work, cvm1, iw1, bind_some', n1, if_false, wi1, e2, zb2_some, c0, if_true, cv2, wm, n0]
      · obtain ⟨h3, sp3, g1, O3, fr3⟩ := s_explore (o := 332) (by omega) (show 0 < 9 by omega) hn O2 HUh
        have B3 : BAS n X Le tl w rb ran Kf b h3 := B1.cls fun k hk => fr3 k (by omega)
        have OB3 : ORB 21 kd (bfs kd n (nwF X Le) (goF X Le)) sp (nI kd) h3 := OB.fr fun k a c => fr3 k (by omega)
        have ws3 := s_works OB3 KB
        have ws0 := s_works O3 KB0
        have eb := O3.big
        obtain ⟨h2, m', hm', m4', e2, fr2, M, B2⟩ := Q h3 fun k hk => fr3 k (by omega)
        obtain ⟨h03, mm3, hmm3, -, -, mm63, -⟩ := id B3.1
        have cvm3 := fun {α : Type} (o : Option α) => MO_cv h3 mm3 hmm3 o
        have iw3 := isWay_M hmm3 mm63 w10 x
        rw [zx] at iw3
        simp only [e0', if_false] at iw3
        have wi3 := M_wX (h := h3) (x := nI 1) (b := 1) (hi := 1) rfl (by omega)
        rw [show 1 + 1 = 2 from rfl, z] at wi3
        simp only [e0, if_false] at wi3
        have q9' := (HO_rd h03).2.2.2.2.2.2.2.2.2.1
        have q10' := (HO_rd h03).2.2.2.2.2.2.2.2.2.2.1
        have wm := M_works M m4' (by omega) zb KB
        have cv2 := fun {α : Type} (o : Option α) => M.cv (α := α) o
        obtain ⟨h4, m4h, hm4, m44, e4, fr4, M4⟩ := f_fa B2 hn (show 0 < 9 by omega)
        have M4 := M4.resolve_right fun w => by omega
        have B4 : BAS n X Le tl w rb ran Kf b h4 := B2.mod hm4 M4.2 fr4
        have O13 : cOrd 21 n (nwF X Le) (goF X Le) h3 := ⟨kd, _, sp, _, k9, OB3, Or.inr ⟨rfl, rfl⟩⟩
        have O23 : cOrd 332 n (nwF X Le) (goF X Le) h3 := ⟨0, _, sp3, _, by omega, O3, Or.inr ⟨rfl, rfl⟩⟩
        have O14 : cOrd 21 n (nwF X Le) (goF X Le) h4 := O13.fr fun k a c => (fr2.tr fr4) k (by omega) (by omega) (by omega)
        have O24 : cOrd 332 n (nwF X Le) (goF X Le) h4 := O23.fr fun k a c => (fr2.tr fr4) k (by omega) (by omega) (by omega)
        have cvo2 : ∀ {α : Type} (o : Option α), zcv h1 332 2 o = o := by
          obtain ⟨kd0, b0, sp0, ex0, -, O0, -⟩ := O2
          exact fun o => O0.cvo o
        have cv4 := fun {α : Type} (o : Option α) => M4.2.cv (α := α) o
        by_cases zb0 : bBig (bfs 0 n (nwF X Le) (goF X Le)) = true
        · rw [if_pos zb0] at eb e4
          have c4 : ((0 : Int32) ≤ -4) = False := by decide
          refine ⟨-4, h3, h4, ?_, ?_, B4, O14, O24⟩
          · simp (disch := omega) only [m_Home_work, nI_lt0, nI_le_iff, t1, if_false, if_true, cvh, e1, zb2_some, c1, n1, q10, bind_some', cvo2, g1, q10', O3.cvo, m_Orders_isBig, eb, zbl_1]
          · simp only [m_Model_work, cvm3, iw3, bind_some', n1, if_false, wi3, e2, zb2_some, c0, if_true, cv2, wm, e4, c4]
        · rw [if_neg zb0] at eb e4
          have wm4 := M_works M4.2 m44 (by omega) (by simpa using zb0) KB0
          by_cases ee : nI (unw (bG (bfs kd n (nwF X Le) (goF X Le))) (bSz (bfs kd n (nwF X Le) (goF X Le)))) = nI (unw (bG (bfs 0 n (nwF X Le) (goF X Le))) (bSz (bfs 0 n (nwF X Le) (goF X Le))))
          · refine ⟨nI 1, h3, h4, ?_, ?_, B4, O14, O24⟩
            · simp (disch := omega) only [m_Home_work, nI_lt0, nI_le_iff, t1, if_false, if_true, cvh, e1, zb2_some, c1, n1, q10, bind_some', cvo2, g1, q10', O3.cvo, m_Orders_isBig, eb, zbl_0, n0, q9', OB3.cvo, ws3, ws0, eq_true ee]
            · simp only [m_Model_work, cvm3, iw3, bind_some', n1, if_false, wi3, e2, zb2_some, c0, if_true, cv2, wm, e4, cv4, wm4, eq_true ee]
          · refine ⟨nI 0, h3, h4, ?_, ?_, B4, O14, O24⟩
            · simp (disch := omega) only [m_Home_work, nI_lt0, nI_le_iff, t1, if_false, if_true, cvh, e1, zb2_some, c1, n1, q10, bind_some', cvo2, g1, q10', O3.cvo, m_Orders_isBig, eb, zbl_0, n0, q9', OB3.cvo, ws3, ws0, eq_false ee]
            · simp only [m_Model_work, cvm3, iw3, bind_some', n1, if_false, wi3, e2, zb2_some, c0, if_true, cv2, wm, e4, cv4, wm4, eq_false ee]
end WF
