/-! WHAT A ROW OF CELLS KEEPS (fm: family, n: huts, c: how many steps were done) -/
def ivW (n : Nat) (g : Nat → Int32) : Prop := ∃ w, w ≤ 8 ∧ g 18 = nI w ∧ (∀ i, i < w → ∃ f t, f < n ∧ t < n ∧ g (19 + i) = nI f ∧ g (27 + i) = nI t) ∧ ∀ i, w ≤ i → i < 8 → g (19 + i) = 0 ∧ g (27 + i) = 0 ∧ g (35 + i) = 0
def ivN (n : Nat) (g : Nat → Int32) : Prop := ∃ k, k ≤ 8 ∧ g 43 = nI k ∧ (∀ i, i < k → ∃ t, t < n ∧ g (44 + i) = nI t) ∧ ∀ i, k ≤ i → i < 8 → g (44 + i) = 0 ∧ g (52 + i) = 0 ∧ g (60 + i) = 0
def ivH (n : Nat) (g : Nat → Int32) : Prop := (∀ hh, hh < 6 → g hh = 0 ∨ g hh = nI 1) ∧ (∀ hh, n ≤ hh → hh < 6 → g hh = 0) ∧ ∀ hh, hh < 6 → ∃ m, m ≤ 270 ∧ g (12 + hh) = nI m
def rel (fm j : Nat) : Prop := (fm = 1 ∧ (j < 43 ∨ (68 ≤ j ∧ j < 75))) ∨ (fm = 2 ∧ 75 ≤ j ∧ j < 93) ∨ (fm = 4 ∧ 93 ≤ j ∧ j < 105) ∨ (fm = 5 ∧ 105 ≤ j)
def ivZ (fm : Nat) (g : Nat → Int32) : Prop := ∀ j, (35 ≤ j ∧ j < 43 ∨ 68 ≤ j ∧ j < 120) → ¬ rel fm j → g j = 0
def ivS (n : Nat) (g : Nat → Int32) : Prop := (∀ hh, hh < 6 → g (87 + hh) = 0 ∨ g (87 + hh) = nI 1) ∧ (∀ hh, 0 < hh → hh < n → g (87 + hh) = nI 1 → ∃ t, t < n ∧ g (81 + hh) = nI t) ∧ ∀ hh, n ≤ hh → hh < 6 → g (81 + hh) = -1
def ivT (g : Nat → Int32) : Prop := (∀ hh, hh < 6 → g (99 + hh) = 0 ∨ g (99 + hh) = nI 1) ∧ ∀ i, i < 8 → g (60 + i) = 0 ∨ g (60 + i) = nI 1
def s6 (U : Nat → Nat) : Nat := U 0 + U 1 + U 2 + U 3 + U 4 + U 5
def s8 (U : Nat → Nat) : Nat := U 0 + U 1 + U 2 + U 3 + U 4 + U 5 + U 6 + U 7
def ivL (c s : Nat) (g : Nat → Int32) : Prop := ∃ (U V N : Nat → Nat) (T : Nat), (∀ hh, hh < 6 → g (68 + hh) = nI (U hh)) ∧ (∀ i, i < 8 → g (35 + i) = nI (V i)) ∧ (∀ i, i < 8 → g (52 + i) = nI (N i)) ∧ g 74 = nI T ∧ s6 U + s8 V + s8 N + s ≤ T ∧ T ≤ 64 * (1 + c)
def ivO (g : Nat → Int32) : Prop := (g 120 = 0 ∨ g 120 = nI 1) ∧ ∀ j, 123 ≤ j → g j = 0
def IV (fm n c s : Nat) (g : Nat → Int32) : Prop := ivW n g ∧ ivN n g ∧ ivH n g ∧ ivZ fm g ∧ (fm = 2 → ivS n g) ∧ (fm = 4 → ivT g) ∧ (fm = 1 → ivL c s g) ∧ ivO g
theorem IV.ok {fm n c s : Nat} {g : Nat → Int32} (hn : n ≤ 6) (h : IV fm n c s g) : okG n g := by
  obtain ⟨⟨w, w8, hw, h1, -⟩, ⟨k, k8, hk, h2, -⟩, ⟨-, -, h3⟩, -⟩ := h
  exact ⟨w, k, w8, k8, hw, hk, h1, h2, fun hh q => h3 hh (by omega)⟩
section CG
variable {n fm c : Nat} {g g' : Nat → Int32}
theorem ivW.cg (h : ivW n g) (e : ∀ j, 18 ≤ j → j < 43 → g' j = g j) : ivW n g' := by
  obtain ⟨w, w8, hw, h1, h2⟩ := h
  refine ⟨w, w8, by rw [e 18 (by omega) (by omega)]; exact hw, fun i hi => ?_, fun i a b => ?_⟩
  · rw [e (19 + i) (by omega) (by omega), e (27 + i) (by omega) (by omega)]
    exact h1 i hi
  · rw [e (19 + i) (by omega) (by omega), e (27 + i) (by omega) (by omega), e (35 + i) (by omega) (by omega)]
    exact h2 i a b
theorem ivN.cg (h : ivN n g) (e : ∀ j, 43 ≤ j → j < 68 → g' j = g j) : ivN n g' := by
  obtain ⟨w, w8, hw, h1, h2⟩ := h
  refine ⟨w, w8, by rw [e 43 (by omega) (by omega)]; exact hw, fun i hi => ?_, fun i a b => ?_⟩
  · rw [e (44 + i) (by omega) (by omega)]
    exact h1 i hi
  · rw [e (44 + i) (by omega) (by omega), e (52 + i) (by omega) (by omega), e (60 + i) (by omega) (by omega)]
    exact h2 i a b
theorem ivH.cg (h : ivH n g) (e : ∀ j, j < 18 → g' j = g j) : ivH n g' := by
  obtain ⟨h1, h2, h3⟩ := h
  refine ⟨fun hh q => ?_, fun hh a b => ?_, fun hh q => ?_⟩
  · rw [e hh (by omega)]; exact h1 hh q
  · rw [e hh (by omega)]; exact h2 hh a b
  · rw [e (12 + hh) (by omega)]; exact h3 hh q
theorem ivZ.cg (h : ivZ fm g) (e : ∀ j, (35 ≤ j ∧ j < 43 ∨ 68 ≤ j ∧ j < 120) → ¬ rel fm j → g' j = g j) : ivZ fm g' := fun j a b => (e j a b).trans (h j a b)
theorem ivS.cg (h : ivS n g) (e : ∀ j, 81 ≤ j → j < 93 → g' j = g j) (hn : n ≤ 6) : ivS n g' := by
  obtain ⟨h1, h2, h3⟩ := h
  refine ⟨fun hh q => ?_, fun hh a b => ?_, fun hh a b => ?_⟩
  · rw [e (87 + hh) (by omega) (by omega)]; exact h1 hh q
  · rw [e (87 + hh) (by omega) (by omega), e (81 + hh) (by omega) (by omega)]; exact h2 hh a b
  · rw [e (81 + hh) (by omega) (by omega)]; exact h3 hh a b
theorem ivT.cg (h : ivT g) (e : ∀ j, (60 ≤ j ∧ j < 68 ∨ 99 ≤ j ∧ j < 105) → g' j = g j) : ivT g' := by
  obtain ⟨h1, h2⟩ := h
  refine ⟨fun hh q => ?_, fun i q => ?_⟩
  · rw [e (99 + hh) (by omega)]; exact h1 hh q
  · rw [e (60 + i) (by omega)]; exact h2 i q
theorem ivL.cg {c c' s : Nat} (h : ivL c s g) (hc : c ≤ c') (e : ∀ j, (35 ≤ j ∧ j < 43 ∨ 52 ≤ j ∧ j < 60 ∨ 68 ≤ j ∧ j < 75) → g' j = g j) : ivL c' s g' := by
  obtain ⟨U, V, N, T, h1, h2, h3, h4, h5, h6⟩ := h
  refine ⟨U, V, N, T, fun hh q => ?_, fun i q => ?_, fun i q => ?_, ?_, h5, by omega⟩
  · rw [e (68 + hh) (by omega)]; exact h1 hh q
  · rw [e (35 + i) (by omega)]; exact h2 i q
  · rw [e (52 + i) (by omega)]; exact h3 i q
  · rw [e 74 (by omega)]; exact h4
theorem ivO.cg (h : ivO g) (e : ∀ j, (j = 120 ∨ 123 ≤ j) → g' j = g j) : ivO g' := by
  obtain ⟨h1, h2⟩ := h
  exact ⟨by rw [e 120 (Or.inl rfl)]; exact h1, fun j q => by rw [e j (Or.inr q)]; exact h2 j q⟩
end CG
-- shifting a part of eight
theorem cg_in {g : Nat → Int32} {st i j : Nat} (hj : j < 8) (hi : i < 8) : cg g st i (st + j) = if j < i then g (st + j) else if j < 7 then g (st + (j + 1)) else 0 := by
  unfold cg
  by_cases c : j < i
  · rw [if_pos c]
    by_cases c2 : st + j = st + 7
    · rw [if_neg (by omega), if_pos c2]
      omega
    · rw [if_neg (by omega), if_neg c2]
  · rw [if_neg c]
    by_cases c2 : j < 7
    · rw [if_pos c2, if_pos (by omega)]
      rfl
    · rw [if_neg c2, if_neg (by omega), if_pos (by omega)]
theorem cg_out {g : Nat → Int32} {st i j : Nat} (hj : j < st ∨ st + 8 ≤ j) : cg g st i j = g j := by
  unfold cg
  rw [if_neg (by omega), if_neg (by omega)]

section TK
variable {n fm c : Nat} {g : Nat → Int32} {i : Nat}
theorem tW_18 (i : Nat) : takeW g i 18 = g 18 - nI 1 := by
  unfold takeW
  rw [cg_out (by omega), cg_out (by omega), cg_out (by omega), upd_eq]
theorem tW_19 {j : Nat} (hi : i < 8) (hj : j < 8) : takeW g i (19 + j) = if j < i then g (19 + j) else if j < 7 then g (19 + (j + 1)) else 0 := by
  unfold takeW
  rw [cg_out (by omega), cg_out (by omega), cg_in hj hi, upd_ne (by omega), upd_ne (by omega)]
theorem tW_27 {j : Nat} (hi : i < 8) (hj : j < 8) : takeW g i (27 + j) = if j < i then g (27 + j) else if j < 7 then g (27 + (j + 1)) else 0 := by
  unfold takeW
  rw [cg_out (by omega), cg_in hj hi, cg_out (by omega), cg_out (by omega), upd_ne (by omega), upd_ne (by omega)]
theorem tW_35 {j : Nat} (hi : i < 8) (hj : j < 8) : takeW g i (35 + j) = if j < i then g (35 + j) else if j < 7 then g (35 + (j + 1)) else 0 := by
  unfold takeW
  rw [cg_in hj hi, cg_out (by omega), cg_out (by omega), cg_out (by omega), cg_out (by omega), upd_ne (by omega), upd_ne (by omega)]
theorem tN_44 {j : Nat} (hi : i < 8) (hj : j < 8) : takeN g i (44 + j) = if j < i then g (44 + j) else if j < 7 then g (44 + (j + 1)) else 0 := by
  unfold takeN
  rw [cg_out (by omega), cg_out (by omega), cg_in hj hi, upd_ne (by omega), upd_ne (by omega)]
theorem tN_52 {j : Nat} (hi : i < 8) (hj : j < 8) : takeN g i (52 + j) = if j < i then g (52 + j) else if j < 7 then g (52 + (j + 1)) else 0 := by
  unfold takeN
  rw [cg_out (by omega), cg_in hj hi, cg_out (by omega), cg_out (by omega), upd_ne (by omega), upd_ne (by omega)]
theorem tN_60 {j : Nat} (hi : i < 8) (hj : j < 8) : takeN g i (60 + j) = if j < i then g (60 + j) else if j < 7 then g (60 + (j + 1)) else 0 := by
  unfold takeN
  rw [cg_in hj hi, cg_out (by omega), cg_out (by omega), cg_out (by omega), cg_out (by omega), upd_ne (by omega), upd_ne (by omega)]
theorem ivW.take {w : Nat} (h : ivW n g) (hw : g 18 = nI w) (w8 : w ≤ 8) (hi : i < w) : ivW n (takeW g i) := by
  obtain ⟨w', w8', hw', h1, h2⟩ := h
  have ew : w' = w := (nI_eq (by omega) (by omega)).mp (hw'.symm.trans hw)
  subst ew
  refine ⟨w' - 1, by omega, by rw [tW_18, hw, nI_subn (by omega)], fun j hj => ?_, fun j a b => ?_⟩
  · rw [tW_19 (by omega) (by omega), tW_27 (by omega) (by omega)]
    by_cases q : j < i
    · simp only [if_pos q]; exact h1 j (by omega)
    · simp only [if_neg q, if_pos (show j < 7 by omega)]; exact h1 (j + 1) (by omega)
  · rw [tW_19 (by omega) (by omega), tW_27 (by omega) (by omega), tW_35 (by omega) (by omega)]
    have e : ¬ j < i := by omega
    by_cases q : j < 7
    · simp only [if_neg e, if_pos q]; exact h2 (j + 1) (by omega) (by omega)
    · simp only [if_neg e, if_neg q]; exact ⟨trivial, trivial, trivial⟩
theorem ivN.take {w : Nat} (h : ivN n g) (hw : g 43 = nI w) (w8 : w ≤ 8) (hi : i < w) : ivN n (takeN g i) := by
  obtain ⟨w', w8', hw', h1, h2⟩ := h
  have ew : w' = w := (nI_eq (by omega) (by omega)).mp (hw'.symm.trans hw)
  subst ew
  refine ⟨w' - 1, by omega, by rw [tN_43, hw, nI_subn (by omega)], fun j hj => ?_, fun j a b => ?_⟩
  · rw [tN_44 (by omega) (by omega)]
    by_cases q : j < i
    · rw [if_pos q]; exact h1 j (by omega)
    · rw [if_neg q, if_pos (by omega)]; exact h1 (j + 1) (by omega)
  · rw [tN_44 (by omega) (by omega), tN_52 (by omega) (by omega), tN_60 (by omega) (by omega)]
    have e : ¬ j < i := by omega
    by_cases q : j < 7
    · simp only [if_neg e, if_pos q]; exact h2 (j + 1) (by omega) (by omega)
    · simp only [if_neg e, if_neg q]; exact ⟨trivial, trivial, trivial⟩
theorem ivZ.takeW (h : ivZ fm g) (hi : i < 8) : ivZ fm (takeW g i) := by
  intro j a b
  by_cases q : j < 43
  · obtain ⟨k, rfl⟩ : ∃ k, j = 35 + k := ⟨j - 35, by omega⟩
    have hz : ∀ k, k < 8 → g (35 + k) = 0 := fun k hk => h (35 + k) (by omega) (by unfold rel at b ⊢; omega)
    rw [tW_35 hi (by omega)]
    split
    · exact hz k (by omega)
    · split
      · exact hz (k + 1) (by omega)
      · rfl
  · rw [tW_hi i (by omega)]; exact h j a b
theorem ivT.takeN (h : ivT g) (hi : i < 8) : ivT (takeN g i) := by
  refine ⟨fun hh q => by rw [tN_hi i (by omega)]; exact h.1 hh q, fun j q => ?_⟩
  rw [tN_60 hi q]
  split
  · exact h.2 j q
  · split
    · exact h.2 (j + 1) (by omega)
    · exact Or.inl rfl
/-- eight numbers, one taken out -/
def sh8 (V : Nat → Nat) (i : Nat) : Nat → Nat := fun j => if j < i then V j else if j < 7 then V (j + 1) else 0
theorem s8_sh {V : Nat → Nat} (hi : i < 8) : s8 (sh8 V i) + V i = s8 V := by
  unfold s8 sh8
  rcases (show i = 0 ∨ i = 1 ∨ i = 2 ∨ i = 3 ∨ i = 4 ∨ i = 5 ∨ i = 6 ∨ i = 7 by omega) with rfl | rfl | rfl | rfl | rfl | rfl | rfl | rfl <;> simp <;> omega
def fu (U : Nat → Nat) (k v : Nat) : Nat → Nat := fun j => if j = k then v else U j
theorem s6_fu {U : Nat → Nat} {k v : Nat} (hk : k < 6) : s6 (fu U k v) + U k = s6 U + v := by
  unfold s6 fu
  rcases (show k = 0 ∨ k = 1 ∨ k = 2 ∨ k = 3 ∨ k = 4 ∨ k = 5 by omega) with rfl | rfl | rfl | rfl | rfl | rfl <;> simp <;> omega
theorem s8_fu {U : Nat → Nat} {k v : Nat} (hk : k < 8) : s8 (fu U k v) + U k = s8 U + v := by
  unfold s8 fu
  rcases (show k = 0 ∨ k = 1 ∨ k = 2 ∨ k = 3 ∨ k = 4 ∨ k = 5 ∨ k = 6 ∨ k = 7 by omega) with rfl | rfl | rfl | rfl | rfl | rfl | rfl | rfl <;> simp <;> omega
theorem s6_le {U : Nat → Nat} {k : Nat} (hk : k < 6) : U k ≤ s6 U := by
  unfold s6
  rcases (show k = 0 ∨ k = 1 ∨ k = 2 ∨ k = 3 ∨ k = 4 ∨ k = 5 by omega) with rfl | rfl | rfl | rfl | rfl | rfl <;> omega
theorem s8_le {U : Nat → Nat} {k : Nat} (hk : k < 8) : U k ≤ s8 U := by
  unfold s8
  rcases (show k = 0 ∨ k = 1 ∨ k = 2 ∨ k = 3 ∨ k = 4 ∨ k = 5 ∨ k = 6 ∨ k = 7 by omega) with rfl | rfl | rfl | rfl | rfl | rfl | rfl | rfl <;> omega
end TK
