/-! SHELVES -/
section SHV
variable {h : zH} {s : Nat} {len so wy : Int32}
theorem SHE_rd (ha : h (658 + 2 * s) = SHE s len so wy) : zcls h (658 + 2 * s) = 5 ∧ zrR h (658 + 2 * s) 5 0 = some (659 + 2 * s) ∧ zrI h (658 + 2 * s) 5 1 = some len ∧ zrI h (658 + 2 * s) 5 2 = some so ∧ zrI h (658 + 2 * s) 5 3 = some wy ∧ (∀ x, zwI h (658 + 2 * s) 5 1 x = some (zup h (658 + 2 * s) (SHE s x so wy))) ∧ (∀ x, zwI h (658 + 2 * s) 5 2 x = some (zup h (658 + 2 * s) (SHE s len x wy))) ∧ ∀ x, zwI h (658 + 2 * s) 5 3 x = some (zup h (658 + 2 * s) (SHE s len so x)) :=
  ⟨zcls_of ha, zrR_of ha rfl, zrI_of ha rfl, zrI_of ha rfl, zrI_of ha rfl, fun x => zwI_of ha (by simp), fun x => zwI_of ha (by simp), fun x => zwI_of ha (by simp)⟩
theorem SHE_cv (ha : h (658 + 2 * s) = SHE s len so wy) {α : Type} (o : Option α) : zcv h (658 + 2 * s) 5 o = o := zcv_of (zcls_of ha)
theorem sh_empty (ha : h (658 + 2 * s) = SHE s len so wy) : m_Shelf_isEmpty (658 + 2 * s) h = some (if wy = -1 ∧ so = -1 then nI 1 else nI 0) := by
  obtain ⟨-, -, -, r2, r3, -⟩ := SHE_rd ha
  by_cases a : wy = -1
  · by_cases b : so = -1
    · rw [if_pos ⟨a, b⟩]
      simp only [m_Shelf_isEmpty, r3, bind_some', eq_true a, if_true, r2, eq_true b]
    · rw [if_neg (fun q => b q.2)]
      simp only [m_Shelf_isEmpty, r3, bind_some', eq_true a, if_true, r2, eq_false b, if_false]
  · rw [if_neg (fun q => a q.1)]
    simp only [m_Shelf_isEmpty, r3, bind_some', eq_false a, if_false]
theorem sh_isRow (ha : h (658 + 2 * s) = SHE s len so wy) : m_Shelf_isRow (658 + 2 * s) h = some (if so = -1 then nI 0 else nI 1) := by
  obtain ⟨-, -, -, r2, -⟩ := SHE_rd ha
  by_cases b : so = -1
  · rw [if_pos b]; simp only [m_Shelf_isRow, r2, bind_some', eq_true b, if_true]
  · rw [if_neg b]; simp only [m_Shelf_isRow, r2, bind_some', eq_false b, if_false]
theorem sh_isRowOf (ha : h (658 + 2 * s) = SHE s len so wy) (x : Int32) : m_Shelf_isRowOf (658 + 2 * s) x h = some (if so = x then nI 1 else nI 0) := by
  obtain ⟨-, -, -, r2, -⟩ := SHE_rd ha
  by_cases b : so = x
  · rw [if_pos b]; simp only [m_Shelf_isRowOf, r2, bind_some', eq_true b, if_true]
  · rw [if_neg b]; simp only [m_Shelf_isRowOf, r2, bind_some', eq_false b, if_false]
theorem sh_place {l : Nat} (hl : l ≤ 60) (ha : h (658 + 2 * s) = SHE s (nI l) so wy) (x : Int32) : m_Shelf_hasPlace (658 + 2 * s) x h = some (if ix x l = none then nI 0 else nI 1) := by
  obtain ⟨-, -, r1, -⟩ := SHE_rd ha
  rcases ix_cases x l (by omega) with ⟨z, q⟩ | ⟨k, hk, rfl, z⟩
  · rw [z, if_pos rfl]
    by_cases q0 : x < 0
    · simp only [m_Shelf_hasPlace, eq_true q0, if_true]
    · simp only [m_Shelf_hasPlace, eq_false q0, if_false, r1, bind_some', eq_true (q.resolve_left q0), if_true]
  · rw [z]
    have c : (l ≤ k) = False := eq_false (by omega)
    have c2 : ((some k : Option Nat) = none) = False := by simp
    simp (disch := omega) only [m_Shelf_hasPlace, nI_lt0, if_false, r1, bind_some', nI_le_iff, c, c2]
theorem isShelf_ix (x : Int32) (h : zH) : m_Home_isShelf x h = some (if ix x 6 = none then nI 0 else nI 1) := by
  rcases ix_cases x 6 (by omega) with ⟨z, q⟩ | ⟨k, hk, rfl, z⟩
  · rw [z, if_pos rfl]
    by_cases q0 : x < 0
    · simp only [m_Home_isShelf, eq_true q0, if_true]
    · simp only [m_Home_isShelf, eq_false q0, if_false, eq_true (q.resolve_left q0), if_true]
  · rw [z]
    have c : (6 ≤ k) = False := eq_false (by omega)
    have c2 : ((some k : Option Nat) = none) = False := by simp
    simp (disch := omega) only [m_Home_isShelf, nI_lt0, if_false, nI_le_iff, c, c2]
theorem isShelf_M (x : Int32) (h : zH) : m_Model_isShelf x h = some (if ix x 6 = none then nI 0 else nI 1) := by
  have w := M_wX (h := h) (x := x) (b := 5) (hi := 5) rfl (by omega)
  unfold m_Model_isShelf
  rw [w, bind_some']
  by_cases c : ix x (5 + 1) = none
  · have c' : ix x 6 = none := c
    rw [if_pos c]; rfl
  · have c' : ¬ ix x 6 = none := c
    rw [if_neg c]; rfl
end SHV
theorem cSh_at {w : Nat} {h : zH} (c : cSh w h) {tl ww rb : Nat} (h0 : h 0 = HO tl ww rb) : zrR h 0 6 11 = some 645 ∧ ∀ s, s < 6 → zaR 4 h 645 (nI s) = some (658 + 2 * s) := by
  obtain ⟨⟨g, a, b⟩, -⟩ := c
  exact ⟨(HO_rd h0).2.2.2.2.2.2.2.2.2.2.2.2, fun s q => zaR_of a q (by omega) (b s q)⟩
theorem vpL_eq (f : Nat → Int64) (k : Nat) (x : Int64) : vp_updL f k x k = x := if_pos rfl
theorem vpL_ne {f : Nat → Int64} {k j : Nat} {x : Int64} (h : j ≠ k) : vp_updL f k x j = f j := if_neg h
theorem zsJ_st {h : zH} {a n k : Nat} {g : Nat → Int64} {x : Int64} (hk : k < n) (hn : n ≤ 100000) : zsJ (zup h a (zI64 n g)) a (nI k) x = some (zup h a (zI64 n (vp_updL g k x))) := by
  rw [zsJ_of (zup_eq _ _ _) hk hn, zup_zup]
theorem s_fillJ_l {h : zH} {a : Nat} : ∀ (d j f : Nat) (g : Nat → Int64), 60 - j = d → j ≤ 60 → d < f → zloop (g_Fill_J_6 a 0 (nI 60)) f (nI j, zup h a (zI64 60 g)) = some (zup h a (zI64 60 (fun k => if j ≤ k ∧ k < 60 then 0 else g k))) := by
  intro d
  induction d with
  | zero =>
    intro j f g hd hj hf
    obtain ⟨f, rfl⟩ : ∃ k, f = k + 1 := ⟨f - 1, by omega⟩
    show g_Fill_J_6 a 0 (nI 60) _ (nI j, zup h a (zI64 60 g)) = _
    have c : (60 ≤ j) = True := eq_true (by omega)
    simp (disch := omega) only [g_Fill_J_6, nI_le_iff, c, if_true]
    refine congrArg (fun z => some (zup h a (zI64 60 z))) (funext fun k => ?_)
    rw [if_neg (by omega)]
  | succ d ih =>
    intro j f g hd hj hf
    obtain ⟨f, rfl⟩ : ∃ k, f = k + 1 := ⟨f - 1, by omega⟩
    show g_Fill_J_6 a 0 (nI 60) (zloop (g_Fill_J_6 a 0 (nI 60)) f) (nI j, zup h a (zI64 60 g)) = _
    have c : (60 ≤ j) = False := eq_false (by omega)
    simp (disch := omega) only [g_Fill_J_6, nI_le_iff, c, if_false, zsJ_st, bind_some', nI_add]
    rw [ih (j + 1) f _ (by omega) (by omega) (by omega)]
    refine congrArg (fun z => some (zup h a (zI64 60 z))) (funext fun k => ?_)
    unfold vp_updL
    by_cases e : k = j
    · rw [if_neg (by omega), if_pos e, if_pos (by omega)]
    · by_cases e2 : j ≤ k ∧ k < 60
      · rw [if_pos (by omega), if_pos e2]
      · rw [if_neg (by omega), if_neg e, if_neg e2]
theorem s_fillJ {h : zH} {a : Nat} {g : Nat → Int64} (ha : h a = zI64 60 g) : m_Fill_J a 0 h = some (zup h a (zI64 60 (fun k => if 0 ≤ k ∧ k < 60 then 0 else g k))) := by
  have e : zlen h a = some (nI 60) := by
    unfold zlen
    rw [ha]
    rfl
  simp only [m_Fill_J, e, bind_some']
  have := s_fillJ_l (h := h) (a := a) 60 0 zN g rfl (by omega) (by have := zN_big; omega)
  rw [zup_self ha] at this
  exact this
theorem M_row_l {h : zH} {m : Nat → Int32} (hm : h 670 = MO m) {s : Nat} (hs : s < 6) : ∀ (d j f : Nat) (g : Nat → Int64), 60 - j = d → j ≤ 60 → d < f → zloop (g_Model_row_57 670 (nI s)) f (nI (60 * s + j), zup h 691 (zI64 360 g)) = some (nI 1, zup h 691 (zI64 360 (fun k => if 60 * s + j ≤ k ∧ k < 60 * s + 60 then 0 else g k))) := by
  have r : ∀ e, zrR (zup h 691 e) 670 7 31 = some 691 := fun e => (MO_ref _ m (by rw [zup_ne (by omega)]; exact hm)).2.2.2.2.2.2.2.2.2.2.2.2.2.2.2.2.2.2.2.2.1
  intro d
  induction d with
  | zero =>
    intro j f g hd hj hf
    obtain ⟨f, rfl⟩ : ∃ k, f = k + 1 := ⟨f - 1, by omega⟩
    show g_Model_row_57 670 (nI s) _ (nI (60 * s + j), zup h 691 (zI64 360 g)) = _
    have c : (60 * s + 60 ≤ 60 * s + j) = True := eq_true (by omega)
    simp (disch := omega) only [g_Model_row_57, pk_mul, nI_add, nI_le_iff, c, if_true]
    refine congrArg (fun z => some (nI 1, zup h 691 (zI64 360 z))) (funext fun k => ?_)
    rw [if_neg (by omega)]
  | succ d ih =>
    intro j f g hd hj hf
    obtain ⟨f, rfl⟩ : ∃ k, f = k + 1 := ⟨f - 1, by omega⟩
    show g_Model_row_57 670 (nI s) (zloop _ f) (nI (60 * s + j), zup h 691 (zI64 360 g)) = _
    have c : (60 * s + 60 ≤ 60 * s + j) = False := eq_false (by omega)
    simp (disch := omega) only [g_Model_row_57, pk_mul, nI_add, nI_le_iff, c, if_false, r, zsJ_st, bind_some']
    rw [show 60 * s + j + 1 = 60 * s + (j + 1) by omega, ih (j + 1) f _ (by omega) (by omega) (by omega)]
    refine congrArg (fun z => some (nI 1, zup h 691 (zI64 360 z))) (funext fun k => ?_)
    unfold vp_updL
    by_cases e : k = 60 * s + j
    · rw [if_neg (by omega), if_pos e, if_pos (by omega)]
    · by_cases e2 : 60 * s + j ≤ k ∧ k < 60 * s + 60
      · rw [if_pos (by omega), if_pos e2]
      · rw [if_neg (by omega), if_neg e, if_neg e2]
section CALLS2
variable {h : zH} {n tl w rb ran b : Nat} {X : Nat → Nat → Nat} {Le : Nat → Nat} {Kf : Nat → Int32}
theorem f_keep (B : BAS n X Le tl w rb ran Kf b h) (x y : Int32) : ∃ r h1 h2, m_Home_keep 0 x y h = some (r, h1) ∧ m_Model_keep 670 x y h1 = some (r, h2) ∧ BAS n X Le tl w rb ran Kf b h2 ∧ ∀ k, 21 ≤ k → k < 643 → h2 k = h k := by
  obtain ⟨⟨h0, m, hm, m1, m4, m6, m19, m27⟩, cT, cH, ⟨w10, cK⟩, cR, cS, cC, cA, cX⟩ := id B
  have n1 := nI1_0
  have n0 := nI0_0
  have i1 := isShelf_ix x h
  have i2 := fun h => isShelf_M x h
  have a := isWay_H h0 w10 y
  have a' := isWay_M hm m6 w10 y
  obtain ⟨r11, rS⟩ := cSh_at cX h0
  have hold : ∀ s, s < 6 → (y = -1 ∨ ∃ k, k < w ∧ y = nI k) → x = nI s → ∃ r h1 h2, m_Home_keep 0 x y h = some (r, h1) ∧ m_Model_keep 670 x y h1 = some (r, h2) ∧ BAS n X Le tl w rb ran Kf b h2 ∧ ∀ k, 21 ≤ k → k < 643 → h2 k = h k := by
    intro s hs hy hx
    subst hx
    rw [ix_nI hs (by omega)] at i1 i2
    have e0 : ((some s : Option Nat) = none) = False := by simp
    simp only [e0, if_false] at i1 i2
    obtain ⟨⟨g, q1, q2⟩, sf, mf, it, q3, q4, q5, q6, q7⟩ := id cX
    obtain ⟨len, so, wy, el, k1, k2, k3, k4⟩ := q7 s hs
    have cv := fun {α : Type} (o : Option α) => SHE_cv k2 o
    have hold1 : m_Shelf_holdWay (658 + 2 * s) y h = some (zup h (658 + 2 * s) (SHE s (nI 0) (-1) y)) := by
      have w3 := (SHE_rd k2).2.2.2.2.2.2.2 y
      have w2 := (SHE_rd (zup_eq h (658 + 2 * s) (SHE s len so y))).2.2.2.2.2.2.1 (-1)
      have w1 := (SHE_rd (zup_eq (zup h (658 + 2 * s) (SHE s len so y)) (658 + 2 * s) (SHE s len (-1) y))).2.2.2.2.2.1 (nI 0)
      simp only [m_Shelf_holdWay, w3, bind_some', w2, w1]
      rw [zup_zup, zup_zup]
    have hm1 : (zup h (658 + 2 * s) (SHE s (nI 0) (-1) y)) 670 = MO m := by rw [zup_ne (by omega)]; exact hm
    have hsf : (zup h (658 + 2 * s) (SHE s (nI 0) (-1) y)) 689 = zI32 6 sf := by rw [zup_ne (by omega)]; exact q3
    have hmf : ∀ e, (zup (zup h (658 + 2 * s) (SHE s (nI 0) (-1) y)) 689 e) 690 = zI32 6 mf := fun e => by rw [zup_ne (by omega), zup_ne (by omega)]; exact q4
    have f29 : zrR (zup h (658 + 2 * s) (SHE s (nI 0) (-1) y)) 670 7 29 = some 689 := (MO_ref _ m hm1).2.2.2.2.2.2.2.2.2.2.2.2.2.2.2.2.2.2.1
    have f30 : ∀ e, zrR (zup (zup h (658 + 2 * s) (SHE s (nI 0) (-1) y)) 689 e) 670 7 30 = some 690 := fun e => (MO_ref _ m (by rw [zup_ne (by omega)]; exact hm1)).2.2.2.2.2.2.2.2.2.2.2.2.2.2.2.2.2.2.2.1
    have s1 : zsI (zup h (658 + 2 * s) (SHE s (nI 0) (-1) y)) 689 (nI s) y = some (zup (zup h (658 + 2 * s) (SHE s (nI 0) (-1) y)) 689 (zI32 6 (upd sf s y))) := by rw [zsI, zS32_of hsf hs (by omega)]
    have s2 : ∀ e, zsI (zup (zup h (658 + 2 * s) (SHE s (nI 0) (-1) y)) 689 e) 690 (nI s) (nI 0) = some (zup (zup (zup h (658 + 2 * s) (SHE s (nI 0) (-1) y)) 689 e) 690 (zI32 6 (upd mf s (nI 0)))) := fun e => by rw [zsI, zS32_of (hmf e) hs (by omega)]
    have g22 : g_Model_keep_22 670 (nI s) y (zup h (658 + 2 * s) (SHE s (nI 0) (-1) y)) = some (nI 1, zup (zup (zup h (658 + 2 * s) (SHE s (nI 0) (-1) y)) 689 (zI32 6 (upd sf s y))) 690 (zI32 6 (upd mf s (nI 0)))) := by
      simp only [g_Model_keep_22, f29, bind_some', s1, f30, s2]
    refine ⟨nI 1, zup h (658 + 2 * s) (SHE s (nI 0) (-1) y), zup (zup (zup h (658 + 2 * s) (SHE s (nI 0) (-1) y)) 689 (zI32 6 (upd sf s y))) 690 (zI32 6 (upd mf s (nI 0))), ?_, ?_, ?_, ?_⟩
    · rcases hy with hy | ⟨k, hk, hy⟩
      · simp only [m_Home_keep, i1, bind_some', n1, if_false, eq_true hy, if_true, r11, rS s hs, cv, hold1]
      · have z1 : (y = -1) = False := by rw [hy]; exact nI_eqm1 (by omega)
        rw [hy, ix_nI hk (by omega)] at a
        have e0 : ((some k : Option Nat) = none) = False := by simp
        simp only [e0, if_false] at a
        rw [← hy] at a
        simp only [m_Home_keep, i1, bind_some', n1, if_false, z1, HO_cv h0, a, r11, rS s hs, cv, hold1]
    · have cvm := fun {α : Type} (o : Option α) => MO_cv (zup h (658 + 2 * s) (SHE s (nI 0) (-1) y)) m hm1 o
      have a2 := isWay_M hm1 m6 w10 y
      rcases hy with hy | ⟨k, hk, hy⟩
      · simp only [m_Model_keep, i2, bind_some', n1, if_false, eq_true hy, if_true]
        exact g22
      · have z1 : (y = -1) = False := by rw [hy]; exact nI_eqm1 (by omega)
        rw [hy, ix_nI hk (by omega)] at a2
        have e0 : ((some k : Option Nat) = none) = False := by simp
        simp only [e0, if_false] at a2
        rw [← hy] at a2
        simp only [m_Model_keep, i2, bind_some', n1, if_false, z1, cvm, a2, g22]
    · have q : ∀ k, k ≠ 658 + 2 * s → k ≠ 689 → k ≠ 690 → zup (zup (zup h (658 + 2 * s) (SHE s (nI 0) (-1) y)) 689 (zI32 6 (upd sf s y))) 690 (zI32 6 (upd mf s (nI 0))) k = h k := fun k a b c => by rw [zup_ne c, zup_ne b, zup_ne a]
      refine ⟨⟨by rw [q 0 (by omega) (by omega) (by omega)]; exact h0, m, by rw [q 670 (by omega) (by omega) (by omega)]; exact hm, m1, m4, m6, m19, m27⟩, cT.fr fun k y => q k (by omega) (by omega) (by omega), cH.fr fun k y => q k (by omega) (by omega) (by omega), cKinds.fr ⟨w10, cK⟩ fun k y => q k (by omega) (by omega) (by omega), cR.fr fun k y => q k (by omega) (by omega) (by omega), cS.fr fun k y => q k (by omega) (by omega) (by omega), cC.fr fun k y => q k (by omega) (by omega) (by omega), cA.fr fun k y => q k (by omega) (by omega) (by omega), ⟨⟨g, by rw [q 645 (by omega) (by omega) (by omega)]; exact q1, q2⟩, upd sf s y, upd mf s (nI 0), it, by rw [zup_ne (by omega), zup_eq], zup_eq _ _ _, by rw [q 691 (by omega) (by omega) (by omega)]; exact q5, by rw [q 692 (by omega) (by omega) (by omega)]; exact q6, fun t ht => ?_⟩⟩
      by_cases e : t = s
      · subst e
        refine ⟨nI 0, -1, y, el, ?_, by rw [zup_ne (by omega), zup_ne (by omega), zup_eq], by rw [q (659 + 2 * t) (by omega) (by omega) (by omega)]; exact k3, k4⟩
        rw [upd_eq, upd_eq]
        rcases hy with hy | ⟨k, hk, hy⟩
        · exact Or.inl ⟨rfl, rfl, hy, hy, rfl⟩
        · exact Or.inr (Or.inl ⟨k, hk, rfl, rfl, hy, hy, rfl⟩)
      · obtain ⟨len', so', wy', el', l1, l2, l3, l4⟩ := q7 t ht
        exact ⟨len', so', wy', el', by rw [upd_ne e, upd_ne e]; exact l1, by rw [q (658 + 2 * t) (by omega) (by omega) (by omega)]; exact l2, by rw [q (659 + 2 * t) (by omega) (by omega) (by omega)]; exact l3, l4⟩
    · intro k a b
      rw [zup_ne (by omega), zup_ne (by omega), zup_ne (by omega)]
  rcases ix_cases x 6 (by omega) with ⟨z, -⟩ | ⟨s, hs, rfl, z⟩
  · rw [z, if_pos rfl] at i1
    have i2' := i2 h
    rw [z, if_pos rfl] at i2'
    exact ⟨-1, h, h, by simp only [m_Home_keep, i1, bind_some', n0, if_true], by simp only [m_Model_keep, i2', bind_some', n0, if_true], B, fun k _ _ => rfl⟩
  · by_cases c1 : y = -1
    · exact hold s hs (Or.inl c1) rfl
    · rcases ix_cases y w (by omega) with ⟨z2, -⟩ | ⟨k, hk, rfl, z2⟩
      · rw [z2, if_pos rfl] at a a'
        rw [z] at i1 i2
        have e0 : ((some s : Option Nat) = none) = False := by simp
        simp only [e0, if_false] at i1 i2
        exact ⟨-1, h, h, by simp only [m_Home_keep, i1, bind_some', n1, if_false, eq_false c1, HO_cv h0, a, n0, if_true], by simp only [m_Model_keep, i2, bind_some', n1, if_false, eq_false c1, MO_cv _ m hm, a', n0, if_true], B, fun k _ _ => rfl⟩
      · exact hold s hs (Or.inr ⟨k, hk, rfl⟩) rfl
theorem f_row (B : BAS n X Le tl w rb ran Kf b h) (x y v : Int32) : ∃ r h1 h2, m_Home_row 0 x y v h = some (r, h1) ∧ m_Model_row 670 x y v h1 = some (r, h2) ∧ BAS n X Le tl w rb ran Kf b h2 ∧ ∀ k, 21 ≤ k → k < 643 → h2 k = h k := by
  obtain ⟨⟨h0, m, hm, m1, m4, m6, m19, m27⟩, cT, cH, cK, cR, cS, cC, cA, cX⟩ := id B
  have n1 := nI1_0
  have n0 := nI0_0
  have zb := zN_big
  have i1 := isShelf_ix x h
  have i2 := fun h => isShelf_M x h
  have i3 := fun h' => M_wX (h := h') (x := y) (b := 4) (hi := 4) rfl (by omega)
  obtain ⟨r11, rS⟩ := cSh_at cX h0
  rcases ix_cases x 6 (by omega) with ⟨z, -⟩ | ⟨s, hs, rfl, z⟩
  · rw [z, if_pos rfl] at i1
    have i2' := i2 h
    rw [z, if_pos rfl] at i2'
    exact ⟨-1, h, h, by simp only [m_Home_row, i1, bind_some', n0, if_true], by simp only [m_Model_row, i2', bind_some', n0, if_true], B, fun k _ _ => rfl⟩
  rw [z] at i1 i2
  have e0 : ((some s : Option Nat) = none) = False := by simp
  simp only [e0, if_false] at i1 i2
  rcases ix_cases y 5 (by omega) with ⟨z2, c⟩ | ⟨t, ht, rfl, z2⟩
  · have i3' := i3 h
    rw [show 4 + 1 = 5 from rfl, z2, if_pos rfl] at i3'
    refine ⟨-1, h, h, ?_, by simp only [m_Model_row, i2, bind_some', n1, if_false, i3', n0, if_true], B, fun k _ _ => rfl⟩
    by_cases c0 : y < 0
    · simp only [m_Home_row, i1, bind_some', n1, if_false, eq_true c0, if_true]
    · have c4 : (nI 4 < y) = True := by
        have := c.resolve_left c0
        obtain ⟨j, hj, rfl⟩ := nI_of c0
        exact eq_true ((nI_ltI (by omega) hj).mpr (by have := (nI_leI (by omega) hj).mp this; omega))
      simp only [m_Home_row, i1, bind_some', n1, if_false, eq_false c0, c4, if_true]
  have e0t : ((some t : Option Nat) = none) = False := by simp
  have i3 : ∀ h', m_Model_within (nI t).toInt64 0 4 h' = some (nI 1) := fun h' => by
    have := i3 h'
    rw [show 4 + 1 = 5 from rfl, z2] at this
    simpa only [e0t, if_false] using this
  have ct : (4 < t) = False := eq_false (by omega)
  by_cases c60 : v ≤ nI 60
  · by_cases cv0 : (0 : Int32) ≤ v
    · obtain ⟨l, hl, rfl⟩ := nI_of2 (M := nI 60) (n := 60) (by decide) (Int32.not_lt.mpr cv0) c60
      obtain ⟨⟨g, q1, q2⟩, sf, mf, it, q3, q4, q5, q6, q7⟩ := id cX
      obtain ⟨len, so, wy, el, k1, k2, k3, k4⟩ := q7 s hs
      have cv := fun {α : Type} (o : Option α) => SHE_cv k2 o
      have el' : (if nI 0 < (if nI 60 < nI l then nI 60 else nI l) then (if nI 60 < nI l then nI 60 else nI l) else nI 0) = nI l := by
        have c1 : ¬ nI 60 < nI l := Int32.not_lt.mpr c60
        rw [if_neg c1]
        by_cases c2 : nI 0 < nI l
        · rw [if_pos c2]
        · rw [if_neg c2]
          have : ¬ 0 < l := fun q => c2 ((nI_ltI (by omega) (by omega)).mpr q)
          rw [show l = 0 by omega]
      have hold1 : m_Shelf_holdRow (658 + 2 * s) (nI t) (nI l) h = some (zup (zup h (658 + 2 * s) (SHE s (nI l) (nI t) (-1))) (659 + 2 * s) (zI64 60 (fun k => if 0 ≤ k ∧ k < 60 then 0 else el k))) := by
        have w3 := (SHE_rd k2).2.2.2.2.2.2.2 (-1)
        have w2 := (SHE_rd (zup_eq h (658 + 2 * s) (SHE s len so (-1)))).2.2.2.2.2.2.1 (nI t)
        have w1 := (SHE_rd (zup_eq (zup h (658 + 2 * s) (SHE s len so (-1))) (658 + 2 * s) (SHE s len (nI t) (-1)))).2.2.2.2.2.1 (nI l)
        have r0 := (SHE_rd (zup_eq (zup (zup h (658 + 2 * s) (SHE s len so (-1))) (658 + 2 * s) (SHE s len (nI t) (-1))) (658 + 2 * s) (SHE s (nI l) (nI t) (-1)))).2.1
        simp only [m_Shelf_holdRow, w3, bind_some', w2, el', w1, r0]
        rw [zup_zup, zup_zup, s_fillJ (g := el) (by rw [zup_ne (by omega)]; exact k3), bind_some']
      have hm1 : ∀ e e', (zup (zup h (658 + 2 * s) e) (659 + 2 * s) e') 670 = MO m := fun e e' => by rw [zup_ne (by omega), zup_ne (by omega)]; exact hm
      have f29 : ∀ e e', zrR (zup (zup h (658 + 2 * s) e) (659 + 2 * s) e') 670 7 29 = some 689 := fun e e' => (MO_ref _ m (hm1 e e')).2.2.2.2.2.2.2.2.2.2.2.2.2.2.2.2.2.2.1
      have f30 : ∀ e e' e'', zrR (zup (zup (zup h (658 + 2 * s) e) (659 + 2 * s) e') 689 e'') 670 7 30 = some 690 := fun e e' e'' => (MO_ref _ m (by rw [zup_ne (by omega)]; exact hm1 e e')).2.2.2.2.2.2.2.2.2.2.2.2.2.2.2.2.2.2.2.1
      have s1 : ∀ e e' x, zsI (zup (zup h (658 + 2 * s) e) (659 + 2 * s) e') 689 (nI s) x = some (zup (zup (zup h (658 + 2 * s) e) (659 + 2 * s) e') 689 (zI32 6 (upd sf s x))) := fun e e' x => by rw [zsI, zS32_of (g := sf) (n := 6) (by rw [zup_ne (by omega), zup_ne (by omega)]; exact q3) hs (by omega)]
      have s2 : ∀ e e' e'' x, zsI (zup (zup (zup h (658 + 2 * s) e) (659 + 2 * s) e') 689 e'') 690 (nI s) x = some (zup (zup (zup (zup h (658 + 2 * s) e) (659 + 2 * s) e') 689 e'') 690 (zI32 6 (upd mf s x))) := fun e e' e'' x => by rw [zsI, zS32_of (g := mf) (n := 6) (by rw [zup_ne (by omega), zup_ne (by omega), zup_ne (by omega)]; exact q4) hs (by omega)]
      have h691 : ∀ e e' e'' e''', (zup (zup (zup (zup h (658 + 2 * s) e) (659 + 2 * s) e') 689 e'') 690 e''') 691 = zI64 360 it := fun e e' e'' e''' => by rw [zup_ne (by omega), zup_ne (by omega), zup_ne (by omega), zup_ne (by omega)]; exact q5
      have lp := fun e e' e'' e''' => M_row_l (h := zup (zup (zup (zup h (658 + 2 * s) e) (659 + 2 * s) e') 689 e'') 690 e''') (m := m) (by rw [zup_ne (by omega), zup_ne (by omega)]; exact hm1 e e') hs 60 0 zN it rfl (by omega) (by omega)
      have lp : ∀ e e' e'' e''', zloop (g_Model_row_57 670 (nI s)) zN (nI (60 * s), zup (zup (zup (zup h (658 + 2 * s) e) (659 + 2 * s) e') 689 e'') 690 e''') = some (nI 1, zup (zup (zup (zup (zup h (658 + 2 * s) e) (659 + 2 * s) e') 689 e'') 690 e''') 691 (zI64 360 (fun k => if 60 * s + 0 ≤ k ∧ k < 60 * s + 60 then 0 else it k))) := fun e e' e'' e''' => by
        have := lp e e' e'' e'''
        rw [zup_self (h691 e e' e'' e''')] at this
        exact this
      refine ⟨nI 1, zup (zup h (658 + 2 * s) (SHE s (nI l) (nI t) (-1))) (659 + 2 * s) (zI64 60 (fun k => if 0 ≤ k ∧ k < 60 then 0 else el k)), zup (zup (zup (zup (zup h (658 + 2 * s) (SHE s (nI l) (nI t) (-1))) (659 + 2 * s) (zI64 60 (fun k => if 0 ≤ k ∧ k < 60 then 0 else el k))) 689 (zI32 6 (upd sf s (nI (10 + t))))) 690 (zI32 6 (upd mf s (nI l)))) 691 (zI64 360 (fun k => if 60 * s + 0 ≤ k ∧ k < 60 * s + 60 then 0 else it k)), ?_, ?_, ?_, ?_⟩
      · simp (disch := omega) only [m_Home_row, i1, bind_some', n1, if_false, nI_lt0, nI_lt_iff, ct, eq_true c60, if_true, eq_true cv0, r11, rS s hs, cv, hold1]
      · simp (disch := omega) only [m_Model_row, i2, bind_some', n1, if_false, i3, eq_true c60, if_true, eq_true cv0, f29, nI_add, s1, f30, s2, pk_mul, lp]
      · have q : ∀ k, k ≠ 658 + 2 * s → k ≠ 659 + 2 * s → k ≠ 689 → k ≠ 690 → k ≠ 691 → zup (zup (zup (zup (zup h (658 + 2 * s) (SHE s (nI l) (nI t) (-1))) (659 + 2 * s) (zI64 60 (fun k => if 0 ≤ k ∧ k < 60 then 0 else el k))) 689 (zI32 6 (upd sf s (nI (10 + t))))) 690 (zI32 6 (upd mf s (nI l)))) 691 (zI64 360 (fun k => if 60 * s + 0 ≤ k ∧ k < 60 * s + 60 then 0 else it k)) k = h k := fun k a b c d e => by rw [zup_ne e, zup_ne d, zup_ne c, zup_ne b, zup_ne a]
        refine ⟨⟨by rw [q 0 (by omega) (by omega) (by omega) (by omega) (by omega)]; exact h0, m, by rw [q 670 (by omega) (by omega) (by omega) (by omega) (by omega)]; exact hm, m1, m4, m6, m19, m27⟩, cT.fr fun k y => q k (by omega) (by omega) (by omega) (by omega) (by omega), cH.fr fun k y => q k (by omega) (by omega) (by omega) (by omega) (by omega), cK.fr fun k y => q k (by omega) (by omega) (by omega) (by omega) (by omega), cR.fr fun k y => q k (by omega) (by omega) (by omega) (by omega) (by omega), cS.fr fun k y => q k (by omega) (by omega) (by omega) (by omega) (by omega), cC.fr fun k y => q k (by omega) (by omega) (by omega) (by omega) (by omega), cA.fr fun k y => q k (by omega) (by omega) (by omega) (by omega) (by omega), ⟨⟨g, by rw [q 645 (by omega) (by omega) (by omega) (by omega) (by omega)]; exact q1, q2⟩, _, _, _, by rw [zup_ne (by omega), zup_ne (by omega), zup_eq], by rw [zup_ne (by omega), zup_eq], zup_eq _ _ _, by rw [q 692 (by omega) (by omega) (by omega) (by omega) (by omega)]; exact q6, fun u hu => ?_⟩⟩
        by_cases e : u = s
        · subst e
          refine ⟨nI l, nI t, -1, _, ?_, by rw [zup_ne (by omega), zup_ne (by omega), zup_ne (by omega), zup_ne (by omega), zup_eq], by rw [zup_ne (by omega), zup_ne (by omega), zup_ne (by omega), zup_eq], fun k hk => ?_⟩
          · rw [upd_eq, upd_eq]
            exact Or.inr (Or.inr ⟨t, l, ht, hl, rfl, rfl, rfl, rfl, rfl⟩)
          · show (if 0 ≤ k ∧ k < 60 then (0 : Int64) else el k) = (if 60 * u + 0 ≤ 60 * u + k ∧ 60 * u + k < 60 * u + 60 then 0 else it (60 * u + k))
            rw [if_pos (by omega), if_pos (by omega)]
        · obtain ⟨len', so', wy', el'', l1, l2, l3, l4⟩ := q7 u hu
          refine ⟨len', so', wy', el'', by rw [upd_ne e, upd_ne e]; exact l1, by rw [q (658 + 2 * u) (by omega) (by omega) (by omega) (by omega) (by omega)]; exact l2, by rw [q (659 + 2 * u) (by omega) (by omega) (by omega) (by omega) (by omega)]; exact l3, fun k hk => ?_⟩
          show el'' k = (if 60 * s + 0 ≤ 60 * u + k ∧ 60 * u + k < 60 * s + 60 then 0 else it (60 * u + k))
          rw [if_neg (by omega)]
          exact l4 k hk
      · intro k a b
        rw [zup_ne (by omega), zup_ne (by omega), zup_ne (by omega), zup_ne (by omega), zup_ne (by omega)]
    · refine ⟨-14, h, h, ?_, ?_, B, fun k _ _ => rfl⟩
      · simp (disch := omega) only [m_Home_row, i1, bind_some', n1, if_false, nI_lt0, nI_lt_iff, ct, eq_true c60, if_true, eq_false cv0]
      · simp only [m_Model_row, i2, bind_some', n1, if_false, i3, eq_true c60, if_true, eq_false cv0]
  · refine ⟨-1, h, h, ?_, ?_, B, fun k _ _ => rfl⟩
    · simp (disch := omega) only [m_Home_row, i1, bind_some', n1, if_false, nI_lt0, nI_lt_iff, ct, eq_false c60]
    · simp only [m_Model_row, i2, bind_some', n1, if_false, i3, eq_false c60]
end CALLS2
