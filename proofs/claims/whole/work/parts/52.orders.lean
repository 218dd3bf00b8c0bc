/-! ALL ORDERS, THE CLASS: what its rows hold, and what each small method does -/
def prt (g : Nat → Int32) : Nat → Int32
  | 0 => nI 0
  | k + 1 => prt g k * nI 31 + g k
theorem prt_cg {g g' : Nat → Int32} : ∀ k, (∀ c, c < k → g c = g' c) → prt g k = prt g' k := by
  intro k
  induction k with
  | zero => intro _; rfl
  | succ k ih =>
    intro h
    show prt g k * nI 31 + g k = prt g' k * nI 31 + g' k
    rw [ih (fun c hc => h c (by omega)), h k (by omega)]
def AR (h : zH) (a m : Nat) (V : Nat → Int32) : Prop := ∃ g, h a = zI32 150 g ∧ ∀ s, s < m → g s = V s
def RF (h : zH) (a c : Nat) : Prop := ∃ g, h a = zRf 5 150 g ∧ ∀ s, s < 150 → g s = some (c + s)
/-- what the rows hold; b: as far as all orders are gone through -/
def ORB (o kd : Nat) (b : bT) (sp : Nat → Int32) (ex : Int32) (h : zH) : Prop :=
  h o = OE o (nI (bSz b)) (if bBig b = true then nI 1 else nI 0) ex ∧ h (o + 310) = ruE kd (fmo kd) ∧ RF h (o + 1) (o + 2) ∧ RF h (o + 156) (o + 157) ∧
  (∀ s, s < 150 → ∃ f, h (o + 2 + s) = zI32 123 f ∧ hi f ∧ (s < bSz b → f = bG b s)) ∧
  AR h (o + 152) (bSz b) (fun s => prt (bG b s) 121) ∧ AR h (o + 153) (bSz b) (bAh b) ∧ AR h (o + 154) (bSz b) (bCd b) ∧ AR h (o + 155) (bSz b) (fun s => nI (bDp b s)) ∧
  (∀ s, s < 150 → ∃ f, h (o + 157 + s) = zI32 21 f ∧ (s < bSz b → ∀ k, k < bNs b s → f k = nI (bNx b s k))) ∧
  AR h (o + 307) (bSz b) (fun s => nI (bNs b s)) ∧ (∃ CS, h (o + 308) = zI1 150 CS) ∧ h (o + 309) = zI32 123 sp ∧ hi sp
/-- which roles it looks at -/
theorem ORB.fr {o kd : Nat} {b : bT} {sp : Nat → Int32} {ex : Int32} {h h' : zH} (O : ORB o kd b sp ex h) (q : ∀ k, o ≤ k → k < o + 311 → h' k = h k) : ORB o kd b sp ex h' := by
  obtain ⟨a0, a1, ⟨g1, b1, c1⟩, ⟨g2, b2, c2⟩, a4, ⟨g5, b5, c5⟩, ⟨g6, b6, c6⟩, ⟨g7, b7, c7⟩, ⟨g8, b8, c8⟩, a9, ⟨g10, b10, c10⟩, ⟨CS, a11⟩, a12, a13⟩ := O
  refine ⟨by rw [q o (by omega) (by omega)]; exact a0, by rw [q _ (by omega) (by omega)]; exact a1, ⟨g1, by rw [q _ (by omega) (by omega)]; exact b1, c1⟩, ⟨g2, by rw [q _ (by omega) (by omega)]; exact b2, c2⟩, fun s hs => ?_, ⟨g5, by rw [q _ (by omega) (by omega)]; exact b5, c5⟩, ⟨g6, by rw [q _ (by omega) (by omega)]; exact b6, c6⟩, ⟨g7, by rw [q _ (by omega) (by omega)]; exact b7, c7⟩, ⟨g8, by rw [q _ (by omega) (by omega)]; exact b8, c8⟩, fun s hs => ?_, ⟨g10, by rw [q _ (by omega) (by omega)]; exact b10, c10⟩, ⟨CS, by rw [q _ (by omega) (by omega)]; exact a11⟩, by rw [q _ (by omega) (by omega)]; exact a12, a13⟩
  · obtain ⟨f, x, y⟩ := a4 s hs
    exact ⟨f, by rw [q _ (by omega) (by omega)]; exact x, y⟩
  · obtain ⟨f, x, y⟩ := a9 s hs
    exact ⟨f, by rw [q _ (by omega) (by omega)]; exact x, y⟩
/-- only what is below the size counts -/
theorem ORB.cgr {o kd : Nat} {b b' : bT} {sp : Nat → Int32} {ex : Int32} {h : zH} (O : ORB o kd b sp ex h) (ez : bSz b' = bSz b) (eb : bBig b' = bBig b) (e : ∀ s, s < bSz b → bG b' s = bG b s ∧ bAh b' s = bAh b s ∧ bCd b' s = bCd b s ∧ bDp b' s = bDp b s ∧ bNs b' s = bNs b s ∧ ∀ k, k < bNs b s → bNx b' s k = bNx b s k) : ORB o kd b' sp ex h := by
  obtain ⟨a0, a1, a2, a3, a4, ⟨g5, b5, c5⟩, ⟨g6, b6, c6⟩, ⟨g7, b7, c7⟩, ⟨g8, b8, c8⟩, a9, ⟨g10, b10, c10⟩, a11, a12, a13⟩ := O
  refine ⟨by rw [ez, eb]; exact a0, a1, a2, a3, fun s hs => ?_, ⟨g5, b5, fun s hs => ?_⟩, ⟨g6, b6, fun s hs => ?_⟩, ⟨g7, b7, fun s hs => ?_⟩, ⟨g8, b8, fun s hs => ?_⟩, fun s hs => ?_, ⟨g10, b10, fun s hs => ?_⟩, a11, a12, a13⟩
  · obtain ⟨f, x, y, z⟩ := a4 s hs
    exact ⟨f, x, y, fun l => by rw [ez] at l; rw [(e s l).1]; exact z l⟩
  · rw [ez] at hs; show _ = prt (bG b' s) 121; rw [(e s hs).1]; exact c5 s hs
  · rw [ez] at hs; rw [(e s hs).2.1]; exact c6 s hs
  · rw [ez] at hs; rw [(e s hs).2.2.1]; exact c7 s hs
  · rw [ez] at hs; show _ = nI (bDp b' s); rw [(e s hs).2.2.2.1]; exact c8 s hs
  · obtain ⟨f, x, y⟩ := a9 s hs
    refine ⟨f, x, fun l k hk => ?_⟩
    rw [ez] at l
    have := e s l
    rw [this.2.2.2.2.1] at hk
    rw [this.2.2.2.2.2 k hk]
    exact y l k hk
  · rw [ez] at hs; show _ = nI (bNs b' s); rw [(e s hs).2.2.2.2.1]; exact c10 s hs
theorem OE_rd {h : zH} {o : Nat} {sz bg ex : Int32} (ha : h o = OE o sz bg ex) : zrR h o 2 0 = some 2 ∧ zrR h o 2 1 = some (o + 310) ∧ zrR h o 2 2 = some (o + 1) ∧ zrR h o 2 3 = some (o + 152) ∧ zrR h o 2 4 = some (o + 153) ∧ zrR h o 2 5 = some (o + 154) ∧ zrR h o 2 6 = some (o + 155) ∧ zrR h o 2 7 = some (o + 156) ∧ zrR h o 2 8 = some (o + 307) ∧ zrR h o 2 9 = some (o + 308) ∧ zrR h o 2 10 = some (o + 309) ∧ zrI h o 2 11 = some sz ∧ zrI h o 2 12 = some bg ∧ zrI h o 2 13 = some ex :=
  ⟨zrR_of ha rfl, zrR_of ha rfl, zrR_of ha rfl, zrR_of ha rfl, zrR_of ha rfl, zrR_of ha rfl, zrR_of ha rfl, zrR_of ha rfl, zrR_of ha rfl, zrR_of ha rfl, zrR_of ha rfl, zrI_of ha rfl, zrI_of ha rfl, zrI_of ha rfl⟩
theorem OE_wr {h : zH} {o : Nat} {sz bg ex : Int32} (ha : h o = OE o sz bg ex) : (∀ x, zwI h o 2 11 x = some (zup h o (OE o x bg ex))) ∧ (∀ x, x = 0 ∨ x = 1 → zwZ h o 2 12 x = some (zup h o (OE o sz x ex))) ∧ ∀ x, zwI h o 2 13 x = some (zup h o (OE o sz bg x)) :=
  ⟨fun x => zwI_of ha (by simp), fun x q => zwZ_of ha (by simp) q, fun x => zwI_of ha (by simp)⟩
section OSM
variable {h : zH} {o kd a a' : Nat} {b : bT} {sp g g' : Nat → Int32} {ex : Int32}
theorem s_prt_l (ha : h a = zI32 123 g) : ∀ (d j f : Nat), 121 - j = d → j ≤ 121 → d < f → zloop (g_Orders_printOf_4 a h) f (prt g j, nI j) = some (prt g 121) := by
  intro d
  induction d with
  | zero =>
    intro j f hd hj hf
    obtain ⟨f, rfl⟩ : ∃ k, f = k + 1 := ⟨f - 1, by omega⟩
    show g_Orders_printOf_4 a h _ (prt g j, nI j) = _
    obtain rfl : j = 121 := by omega
    have c : (121 ≤ 121) = True := eq_true (by omega)
    simp (disch := omega) only [g_Orders_printOf_4, nI_le_iff, c, if_true]
  | succ d ih =>
    intro j f hd hj hf
    obtain ⟨f, rfl⟩ : ∃ k, f = k + 1 := ⟨f - 1, by omega⟩
    show g_Orders_printOf_4 a h (zloop (g_Orders_printOf_4 a h) f) (prt g j, nI j) = _
    have c : (121 ≤ j) = False := eq_false (by omega)
    have e : zaI h a (nI j) = some (g j) := zA32_of ha (by omega) (by omega)
    simp (disch := omega) only [g_Orders_printOf_4, nI_le_iff, c, if_false, e, bind_some', nI_add]
    exact ih (j + 1) f (by omega) (by omega) (by omega)
theorem s_prt (ha : h a = zI32 123 g) : m_Orders_printOf a h = some (prt g 121) := by
  have z := zN_big
  exact s_prt_l ha 121 0 zN rfl (by omega) (by omega)
theorem s_alk_l {m : Nat} (hm : m ≤ 123) (ha : h a = zI32 123 g) (hb : h a' = zI32 123 g') : ∀ (d j f : Nat), m - j = d → j ≤ m → d < f → (∀ c, c < j → g c = g' c) → ∃ x : Nat, zloop (g_Orders_alike_2 a a' (nI m) h) f (nI j) = some (nI x) ∧ ((x = 1 ∧ ∀ c, c < m → g c = g' c) ∨ (x = 0 ∧ ¬ ∀ c, c < m → g c = g' c)) := by
  intro d
  induction d with
  | zero =>
    intro j f hd hj hf hz
    obtain ⟨f, rfl⟩ : ∃ k, f = k + 1 := ⟨f - 1, by omega⟩
    refine ⟨1, ?_, Or.inl ⟨rfl, fun c hc => hz c (by omega)⟩⟩
    show g_Orders_alike_2 a a' (nI m) h _ (nI j) = _
    have c : (m ≤ j) = True := eq_true (by omega)
    simp (disch := omega) only [g_Orders_alike_2, nI_le_iff, c, if_true]
  | succ d ih =>
    intro j f hd hj hf hz
    obtain ⟨f, rfl⟩ : ∃ k, f = k + 1 := ⟨f - 1, by omega⟩
    have c : (m ≤ j) = False := eq_false (by omega)
    have e : zaI h a (nI j) = some (g j) := zA32_of ha (by omega) (by omega)
    have e' : zaI h a' (nI j) = some (g' j) := zA32_of hb (by omega) (by omega)
    by_cases z : g j = g' j
    · obtain ⟨x, y, t⟩ := ih (j + 1) f (by omega) (by omega) (by omega) (fun c hc => by
        rcases Nat.lt_or_ge c j with q | q
        · exact hz c q
        · rw [show c = j by omega]; exact z)
      refine ⟨x, ?_, t⟩
      rw [← y]
      show g_Orders_alike_2 a a' (nI m) h (zloop (g_Orders_alike_2 a a' (nI m) h) f) (nI j) = _
      simp (disch := omega) only [g_Orders_alike_2, nI_le_iff, c, if_false, e, e', bind_some', eq_true z, if_true, nI_add]
    · refine ⟨0, ?_, Or.inr ⟨rfl, fun q => z (q j (by omega))⟩⟩
      show g_Orders_alike_2 a a' (nI m) h (zloop (g_Orders_alike_2 a a' (nI m) h) f) (nI j) = _
      simp (disch := omega) only [g_Orders_alike_2, nI_le_iff, c, if_false, e, e', bind_some', eq_false z]
theorem s_alk {m : Nat} (hm : m ≤ 123) (ha : h a = zI32 123 g) (hb : h a' = zI32 123 g') : ∃ x : Nat, m_Orders_alike a a' (nI m) h = some (nI x) ∧ ((x = 1 ∧ ∀ c, c < m → g c = g' c) ∨ (x = 0 ∧ ¬ ∀ c, c < m → g c = g' c)) := by
  have z := zN_big
  exact s_alk_l hm ha hb m 0 zN rfl (by omega) (by omega) (fun c hc => by omega)
def fndI (o : Option Nat) : Int32 := match o with
  | some t => nI t
  | none => -1
theorem ORB.row (O : ORB o kd b sp ex h) {s : Nat} (hs : s < bSz b) (h150 : bSz b ≤ 150) : zaR 5 h (o + 1) (nI s) = some (o + 2 + s) ∧ h (o + 2 + s) = zI32 123 (bG b s) := by
  obtain ⟨-, -, ⟨g1, b1, c1⟩, -, a4, -⟩ := O
  obtain ⟨f, x, -, y⟩ := a4 s (by omega)
  exact ⟨zaR_of b1 (by omega) (by omega) (c1 s (by omega)), by rw [x, y hs]⟩
theorem s_fnd_l (O : ORB o kd b sp ex h) (h150 : bSz b ≤ 150) : ∀ (d j f : Nat), bSz b - j = d → j ≤ bSz b → d < f → zloop (g_Orders_findSpare_10 o (prt sp 121) h) f (nI j) = some (fndI (fnd (bG b) sp d j)) := by
  obtain ⟨r0, r1, r2, r3, r4, r5, r6, r7, r8, r9, r10, r11, r12, r13⟩ := OE_rd O.1
  obtain ⟨-, -, -, -, -, ⟨P, b5, c5⟩, -, -, -, -, -, -, a12, -⟩ := id O
  intro d
  induction d with
  | zero =>
    intro j f hd hj hf
    obtain ⟨f, rfl⟩ : ∃ k, f = k + 1 := ⟨f - 1, by omega⟩
    show g_Orders_findSpare_10 o _ h _ (nI j) = _
    have c : (bSz b ≤ j) = True := eq_true (by omega)
    simp (disch := omega) only [g_Orders_findSpare_10, r11, bind_some', nI_le_iff, c, if_true]
    rfl
  | succ d ih =>
    intro j f hd hj hf
    obtain ⟨f, rfl⟩ : ∃ k, f = k + 1 := ⟨f - 1, by omega⟩
    show g_Orders_findSpare_10 o _ h (zloop (g_Orders_findSpare_10 o _ h) f) (nI j) = _
    have c : (bSz b ≤ j) = False := eq_false (by omega)
    have e5 : zaI h (o + 152) (nI j) = some (prt (bG b j) 121) := by rw [zaI, zA32_of b5 (by omega) (by omega), c5 j (by omega)]
    obtain ⟨e1, e2⟩ := O.row (s := j) (by omega) h150
    have IH := ih (j + 1) f (by omega) (by omega) (by omega)
    obtain ⟨x, ex, q⟩ := s_alk (m := 121) (by omega) e2 a12
    have n1 := nI1_0
    by_cases z : prt (bG b j) 121 = prt sp 121
    · rcases q with ⟨rfl, q⟩ | ⟨rfl, q⟩
      · simp (disch := omega) only [g_Orders_findSpare_10, r11, bind_some', nI_le_iff, c, if_false, r3, e5, eq_true z, if_true, r2, e1, r10, ex, n1]
        unfold fnd
        rw [if_pos q]
        rfl
      · simp (disch := omega) only [g_Orders_findSpare_10, r11, bind_some', nI_le_iff, c, if_false, r3, e5, eq_true z, if_true, r2, e1, r10, ex, nI0_0, nI_add, IH]
        conv => rhs; unfold fnd
        rw [if_neg q]
    · have q' : ¬ alk (bG b j) sp := fun y => z (prt_cg 121 y)
      simp (disch := omega) only [g_Orders_findSpare_10, r11, bind_some', nI_le_iff, c, if_false, r3, e5, eq_false z, nI_add, IH]
      conv => rhs; unfold fnd
      rw [if_neg q']
theorem s_fnd (O : ORB o kd b sp ex h) (h150 : bSz b ≤ 150) : m_Orders_findSpare o h = some (fndI (fnd (bG b) sp (bSz b) 0)) := by
  have z := zN_big
  have r10 := (OE_rd O.1).2.2.2.2.2.2.2.2.2.2.1
  have e := s_prt (h := h) (a := o + 309) (g := sp) O.2.2.2.2.2.2.2.2.2.2.2.2.1
  simp only [m_Orders_findSpare, r10, bind_some', e]
  exact s_fnd_l O h150 (bSz b) 0 zN rfl (by omega) (by omega)
end OSM
