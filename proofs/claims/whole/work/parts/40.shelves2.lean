/-! SHELVES: PUT, ELEMENT, SHIFT, TAKEN -/
def wantC (so wy : Int32) (l : Nat) (i : Int32) : Int32 := if wy = -1 ∧ so = -1 then -11 else if so = -1 then -12 else if ix i l = none then -13 else nI 1
section SHW
variable {h : zH} {n tl w rb ran b : Nat} {X : Nat → Nat → Nat} {Le : Nat → Nat} {Kf : Nat → Int32}
/-- what a shelf is, on both sides -/
theorem want_both {s : Nat} (hs : s < 6) {m : Nat → Int32} (h0 : h 0 = HO tl w rb) (hm : h 670 = MO m) (w10 : w ≤ 10) (cX : cSh w h) (i : Int32) : ∃ (so wy : Int32) (l : Nat) (el it : Nat → Int64) (sf mf : Nat → Int32), h (658 + 2 * s) = SHE s (nI l) so wy ∧ l ≤ 60 ∧ h (659 + 2 * s) = zI64 60 el ∧ h 691 = zI64 360 it ∧ h 689 = zI32 6 sf ∧ h 690 = zI32 6 mf ∧ (∀ k, k < 60 → el k = it (60 * s + k)) ∧ m_Home_wantPlace 0 (nI s) i h = some (wantC so wy l i) ∧ m_Model_refusal 670 (nI s) i h = some (if wantC so wy l i = nI 1 then nI 0 else wantC so wy l i) ∧ (wantC so wy l i = nI 1 → ∃ t, t < 5 ∧ so = nI t ∧ sf s = nI (10 + t)) := by
  obtain ⟨r11, rS⟩ := cSh_at cX h0
  obtain ⟨⟨g, q1, q2⟩, sf, mf, it, q3, q4, q5, q6, q7⟩ := id cX
  obtain ⟨len, so, wy, el, k1, k2, k3, k4⟩ := q7 s hs
  have n1 := nI1_0
  have n0 := nI0_0
  have i1 : m_Home_isShelf (nI s) h = some (nI 1) := by rw [isShelf_ix, ix_nI hs (by omega)]; rfl
  have i2 : m_Model_isShelf (nI s) h = some (nI 1) := by rw [isShelf_M, ix_nI hs (by omega)]; rfl
  have cv := fun {α : Type} (o : Option α) => SHE_cv k2 o
  have e1 := sh_empty k2
  have e2 := sh_isRow k2
  have f29 : zrR h 670 7 29 = some 689 := (MO_ref _ m hm).2.2.2.2.2.2.2.2.2.2.2.2.2.2.2.2.2.2.1
  have f30 : zrR h 670 7 30 = some 690 := (MO_ref _ m hm).2.2.2.2.2.2.2.2.2.2.2.2.2.2.2.2.2.2.2.1
  have l1 : zaI h 689 (nI s) = some (sf s) := zA32_of q3 hs (by omega)
  have l2 : zaI h 690 (nI s) = some (mf s) := zA32_of q4 hs (by omega)
  have m11 : ((-11 : Int32) = nI 1) = False := eq_false (by decide)
  have m12 : ((-12 : Int32) = nI 1) = False := eq_false (by decide)
  have m13 : ((-13 : Int32) = nI 1) = False := eq_false (by decide)
  rcases k1 with ⟨a1, a2, a3, a4, a5⟩ | ⟨y, hy, a1, a2, a3, a4, a5⟩ | ⟨t, l, ht, hl, a1, a2, a3, a4, a5⟩
  · subst a1; subst a2; subst a3
    have eW : wantC (-1) (-1) 0 i = -11 := if_pos ⟨rfl, rfl⟩
    rw [if_pos ⟨rfl, rfl⟩] at e1
    refine ⟨-1, -1, 0, el, it, sf, mf, k2, by omega, k3, q5, q3, q4, k4, ?_, ?_, fun q => ?_⟩
    · rw [eW]
      simp only [m_Home_wantPlace, i1, bind_some', n1, if_false, r11, rS s hs, cv, e1]
    · rw [eW]
      have c : ((0 : Int32) ≤ -1) = False := eq_false (by decide)
      simp only [m_Model_refusal, i2, bind_some', n1, if_false, f29, l1, a4, c, m11]
    · rw [eW, m11] at q
      exact q.elim
  · subst a1; subst a2; subst a3
    have cy : (nI y = -1) = False := nI_eqm1 (by omega)
    have eW : wantC (-1) (nI y) 0 i = -12 := by
      unfold wantC
      rw [if_neg (fun q => by rw [cy] at q; exact q.1), if_pos rfl]
    rw [if_neg (fun q => by rw [cy] at q; exact q.1)] at e1
    rw [if_pos rfl] at e2
    refine ⟨-1, nI y, 0, el, it, sf, mf, k2, by omega, k3, q5, q3, q4, k4, ?_, ?_, fun q => ?_⟩
    · rw [eW]
      simp only [m_Home_wantPlace, i1, bind_some', n1, if_false, r11, rS s hs, cv, e1, n0, if_true, e2]
    · rw [eW]
      have c : ((0 : Int32) ≤ nI y) = True := nI_0le (by omega)
      have c2 : (10 ≤ y) = False := eq_false (by omega)
      simp (disch := omega) only [m_Model_refusal, i2, bind_some', n1, if_false, f29, l1, a4, c, if_true, nI_le_iff, c2, m12]
    · rw [eW, m12] at q
      exact q.elim
  · subst a1; subst a2; subst a3
    have ct : (nI t = -1) = False := nI_eqm1 (by omega)
    have e3 := sh_place hl k2 i
    rw [if_neg (fun q => by rw [ct] at q; exact q.2)] at e1
    rw [if_neg (fun q => by rw [ct] at q; exact q)] at e2
    have c : ((0 : Int32) ≤ nI (10 + t)) = True := nI_0le (by omega)
    have c2 : (10 ≤ 10 + t) = True := eq_true (by omega)
    have eW0 : wantC (nI t) (-1) l i = if ix i l = none then -13 else nI 1 := by
      unfold wantC
      rw [if_neg (fun q => by rw [ct] at q; exact q.2), if_neg (fun q => by rw [ct] at q; exact q)]
    refine ⟨nI t, -1, l, el, it, sf, mf, k2, hl, k3, q5, q3, q4, k4, ?_, ?_, fun q => ⟨t, ht, rfl, a4⟩⟩
    · rw [eW0]
      by_cases z : ix i l = none
      · rw [if_pos z] at e3 ⊢
        simp only [m_Home_wantPlace, i1, bind_some', n1, if_false, r11, rS s hs, cv, e1, n0, if_true, e2, e3]
      · rw [if_neg z] at e3 ⊢
        simp only [m_Home_wantPlace, i1, bind_some', n1, if_false, r11, rS s hs, cv, e1, n0, if_true, e2, e3]
    · rw [eW0]
      rcases ix_cases i l (by omega) with ⟨z, q⟩ | ⟨k, hk, rfl, z⟩
      · rw [if_pos z, if_neg (by rw [m13]; exact id)]
        by_cases q0 : i < 0
        · simp (disch := omega) only [m_Model_refusal, i2, bind_some', n1, if_false, f29, l1, a4, c, if_true, nI_le_iff, c2, eq_true q0]
        · simp (disch := omega) only [m_Model_refusal, i2, bind_some', n1, if_false, f29, l1, a4, c, if_true, nI_le_iff, c2, eq_false q0, f30, l2, a5, eq_true (q.resolve_left q0)]
      · have e9 : (if ix (nI k) l = none then (-13 : Int32) else nI 1) = nI 1 := by rw [z]; rfl
        rw [e9, if_pos rfl]
        have c3 : (l ≤ k) = False := eq_false (by omega)
        simp (disch := omega) only [m_Model_refusal, i2, bind_some', n1, if_false, f29, l1, a4, c, if_true, nI_le_iff, c2, nI_lt0, f30, l2, a5, c3]
theorem wantC_ok {so wy i : Int32} {l : Nat} (hl : l ≤ 60) (q : wantC so wy l i = nI 1) : ∃ k, k < l ∧ i = nI k := by
  unfold wantC at q
  split at q
  · exact absurd q (by decide)
  · split at q
    · exact absurd q (by decide)
    · split at q
      · exact absurd q (by decide)
      · rename_i z
        rcases ix_cases i l (by omega) with ⟨y, -⟩ | ⟨k, hk, e, -⟩
        · exact absurd y z
        · exact ⟨k, hk, e⟩
theorem wantC_no {so wy i : Int32} {l : Nat} (q : ¬ wantC so wy l i = nI 1) : ((0 : Int32) ≤ wantC so wy l i) = False ∧ (wantC so wy l i = 0) = False := by
  revert q
  unfold wantC
  split
  · intro _; exact ⟨eq_false (by decide), eq_false (by decide)⟩
  · split
    · intro _; exact ⟨eq_false (by decide), eq_false (by decide)⟩
    · split
      · intro _; exact ⟨eq_false (by decide), eq_false (by decide)⟩
      · intro q; exact absurd rfl q
def loB (t : Nat) (v : Int64) : Int64 := if t = 0 then v.toInt32.toInt8.toInt32.toInt64 else if t = 1 then v.toInt32.toInt16.toInt32.toInt64 else if t = 2 then v.toInt32.toInt64 else if t = 3 then v else if lg_cmp v 0 = 0 then 0 else 1
theorem lo_C {s t : Nat} (ht : t < 5) {len wy : Int32} (ha : h (658 + 2 * s) = SHE s len (nI t) wy) (v : Int64) : m_Shelf_lowestBits (658 + 2 * s) v h = some (loB t v) := by
  have r2 := (SHE_rd ha).2.2.2.1
  rcases (show t = 0 ∨ t = 1 ∨ t = 2 ∨ t = 3 ∨ t = 4 by omega) with rfl | rfl | rfl | rfl | rfl
  all_goals (simp (disch := omega) only [m_Shelf_lowestBits, r2, bind_some', nI_eq_iff]; simp [loB])
  by_cases c : lg_cmp v 0 = 0
  · rw [if_pos c, if_pos c]
  · rw [if_neg c, if_neg c]
theorem lo_M {t : Nat} (ht : t < 5) (v : Int64) : m_Model_asSort (nI t) v h = some (loB t v) := by
  rcases (show t = 0 ∨ t = 1 ∨ t = 2 ∨ t = 3 ∨ t = 4 by omega) with rfl | rfl | rfl | rfl | rfl
  all_goals (simp (disch := omega) only [m_Model_asSort, nI_eq_iff, nI_eq0]; simp [loB])
  by_cases c : lg_cmp v 0 = 0
  · rw [if_pos c, if_pos c]
  · rw [if_neg c, if_neg c]
theorem f_put (B : BAS n X Le tl w rb ran Kf b h) (x i : Int32) (v : Int64) : ∃ r h1 h2, m_Home_put 0 x i v h = some (r, h1) ∧ m_Model_put 670 x i v h1 = some (r, h2) ∧ BAS n X Le tl w rb ran Kf b h2 ∧ ∀ k, 21 ≤ k → k < 643 → h2 k = h k := by
  obtain ⟨⟨h0, m, hm, m1, m4, m6, m19, m27⟩, cT, cH, ⟨w10, cK⟩, cR, cS, cC, cA, cX⟩ := id B
  have n1 := nI1_0
  have n0 := nI0_0
  have cvh := fun {α : Type} (o : Option α) => HO_cv h0 o
  have cvm := fun {α : Type} (o : Option α) => MO_cv h m hm o
  obtain ⟨r11, rS⟩ := cSh_at cX h0
  rcases ix_cases x 6 (by omega) with ⟨z, -⟩ | ⟨s, hs, rfl, z⟩
  · have i1 := isShelf_ix x h
    have i2 := isShelf_M x h
    rw [z, if_pos rfl] at i1 i2
    have c : ((0 : Int32) ≤ -1) = False := eq_false (by decide)
    have c2 : ((-1 : Int32) = 0) = False := eq_false (by decide)
    exact ⟨-1, h, h, by simp only [m_Home_put, cvh, m_Home_wantPlace, i1, bind_some', n0, if_true, c, if_false], by simp only [m_Model_put, cvm, m_Model_refusal, i2, bind_some', n0, if_true, c2, if_false], B, fun k _ _ => rfl⟩
  · obtain ⟨so, wy, l, el, it, sf, mf, k2, l60, k3, q5, q3, q4, k4, eC, eM, ok⟩ := want_both hs h0 hm w10 cX i
    by_cases q : wantC so wy l i = nI 1
    · obtain ⟨t, ht, rfl, esf⟩ := ok q
      obtain ⟨j, hj, rfl⟩ := wantC_ok l60 q
      rw [q] at eC eM
      rw [if_pos rfl] at eM
      have pl := sh_place l60 k2 (nI j)
      rw [ix_nI hj (by omega)] at pl
      have e0 : ((some j : Option Nat) = none) = False := by simp
      simp only [e0, if_false] at pl
      have cv := fun {α : Type} (o : Option α) => SHE_cv k2 o
      have r0 := (SHE_rd k2).2.1
      have lo := lo_C ht k2 v
      have st : zsJ h (659 + 2 * s) (nI j) (loB t v) = some (zup h (659 + 2 * s) (zI64 60 (vp_updL el j (loB t v)))) := zsJ_of k3 (by omega) (by omega)
      have c1 : ((0 : Int32) ≤ nI 1) = True := nI_0le (by omega)
      have hm1 : (zup h (659 + 2 * s) (zI64 60 (vp_updL el j (loB t v)))) 670 = MO m := by rw [zup_ne (by omega)]; exact hm
      have eM1 : m_Model_refusal 670 (nI s) (nI j) (zup h (659 + 2 * s) (zI64 60 (vp_updL el j (loB t v)))) = some (nI 0) := by
        have i2 : ∀ h, m_Model_isShelf (nI s) h = some (nI 1) := fun h => by rw [isShelf_M, ix_nI hs (by omega)]; rfl
        have f29 := (MO_ref _ m hm1).2.2.2.2.2.2.2.2.2.2.2.2.2.2.2.2.2.2.1
        have f30 := (MO_ref _ m hm1).2.2.2.2.2.2.2.2.2.2.2.2.2.2.2.2.2.2.2.1
        have f29' := (MO_ref _ m hm).2.2.2.2.2.2.2.2.2.2.2.2.2.2.2.2.2.2.1
        have f30' := (MO_ref _ m hm).2.2.2.2.2.2.2.2.2.2.2.2.2.2.2.2.2.2.2.1
        have g1 : zaI (zup h (659 + 2 * s) (zI64 60 (vp_updL el j (loB t v)))) 689 (nI s) = zaI h 689 (nI s) := zA32_ne (by omega)
        have g2 : zaI (zup h (659 + 2 * s) (zI64 60 (vp_updL el j (loB t v)))) 690 (nI s) = zaI h 690 (nI s) := zA32_ne (by omega)
        rw [← eM]
        simp only [m_Model_refusal, i2, bind_some', n1, if_false, f29, f30, f29', f30', g1, g2]
      have f31 : zrR (zup h (659 + 2 * s) (zI64 60 (vp_updL el j (loB t v)))) 670 7 31 = some 691 := (MO_ref _ m hm1).2.2.2.2.2.2.2.2.2.2.2.2.2.2.2.2.2.2.2.2.1
      have f29 : zrR (zup h (659 + 2 * s) (zI64 60 (vp_updL el j (loB t v)))) 670 7 29 = some 689 := (MO_ref _ m hm1).2.2.2.2.2.2.2.2.2.2.2.2.2.2.2.2.2.2.1
      have l29 : zaI (zup h (659 + 2 * s) (zI64 60 (vp_updL el j (loB t v)))) 689 (nI s) = some (nI (10 + t)) := by
        rw [zaI, zA32_ne (by omega), zA32_of q3 hs (by omega), esf]
      have s31 : zsJ (zup h (659 + 2 * s) (zI64 60 (vp_updL el j (loB t v)))) 691 (nI (60 * s + j)) (loB t v) = some (zup (zup h (659 + 2 * s) (zI64 60 (vp_updL el j (loB t v)))) 691 (zI64 360 (vp_updL it (60 * s + j) (loB t v)))) := zsJ_of (by rw [zup_ne (by omega)]; exact q5) (by omega) (by omega)
      have es : nI (10 + t) - nI 10 = nI t := by rw [nI_subn (by omega)]; exact congrArg nI (by omega)
      refine ⟨nI 1, zup h (659 + 2 * s) (zI64 60 (vp_updL el j (loB t v))), zup (zup h (659 + 2 * s) (zI64 60 (vp_updL el j (loB t v)))) 691 (zI64 360 (vp_updL it (60 * s + j) (loB t v))), ?_, ?_, ?_, fun k _ _ => by rw [zup_ne (by omega), zup_ne (by omega)]⟩
      · simp only [m_Home_put, cvh, eC, bind_some', c1, if_true, r11, rS s hs, cv, m_Shelf_set, pl, n1, if_false, r0, lo, st]
      · simp only [m_Model_put, MO_cv _ m hm1, eM1, bind_some', n0, if_true, f31, f29, l29, es, lo_M ht, pk_mul, nI_add, s31]
      · have q : ∀ k, k ≠ 659 + 2 * s → k ≠ 691 → zup (zup h (659 + 2 * s) (zI64 60 (vp_updL el j (loB t v)))) 691 (zI64 360 (vp_updL it (60 * s + j) (loB t v))) k = h k := fun k a b => by rw [zup_ne b, zup_ne a]
        obtain ⟨⟨g, p1, p2⟩, sf', mf', it', p3, p4, p5, p6, p7⟩ := id cX
        refine ⟨⟨by rw [q 0 (by omega) (by omega)]; exact h0, m, by rw [q 670 (by omega) (by omega)]; exact hm, m1, m4, m6, m19, m27⟩, cT.fr fun k y => q k (by omega) (by omega), cH.fr fun k y => q k (by omega) (by omega), cKinds.fr ⟨w10, cK⟩ fun k y => q k (by omega) (by omega), cR.fr fun k y => q k (by omega) (by omega), cS.fr fun k y => q k (by omega) (by omega), cC.fr fun k y => q k (by omega) (by omega), cA.fr fun k y => q k (by omega) (by omega), ⟨⟨g, by rw [q 645 (by omega) (by omega)]; exact p1, p2⟩, sf', mf', vp_updL it (60 * s + j) (loB t v), by rw [q 689 (by omega) (by omega)]; exact p3, by rw [q 690 (by omega) (by omega)]; exact p4, zup_eq _ _ _, by rw [q 692 (by omega) (by omega)]; exact p6, fun u hu => ?_⟩⟩
        have eit : it' = it := by
          have := p5.symm.trans q5
          simpa [zI64] using this
        obtain ⟨len', so', wy', el', a1, a2, a3, a4⟩ := p7 u hu
        by_cases e : u = s
        · subst e
          have eel : el' = el := by
            have := a3.symm.trans k3
            simpa [zI64] using this
          refine ⟨len', so', wy', vp_updL el j (loB t v), a1, by rw [q (658 + 2 * u) (by omega) (by omega)]; exact a2, by rw [zup_ne (by omega), zup_eq], fun k hk => ?_⟩
          by_cases e2 : k = j
          · rw [e2, vpL_eq, vpL_eq]
          · rw [vpL_ne e2, vpL_ne (by omega)]
            exact k4 k hk
        · refine ⟨len', so', wy', el', a1, by rw [q (658 + 2 * u) (by omega) (by omega)]; exact a2, by rw [q (659 + 2 * u) (by omega) (by omega)]; exact a3, fun k hk => ?_⟩
          rw [vpL_ne (by omega), ← eit]
          exact a4 k hk
    · obtain ⟨y1, y2⟩ := wantC_no q
      rw [if_neg q] at eM
      refine ⟨wantC so wy l i, h, h, ?_, ?_, B, fun k _ _ => rfl⟩
      · simp only [m_Home_put, cvh, eC, bind_some', y1, if_false]
      · simp only [m_Model_put, cvm, eM, bind_some', y2, if_false]
theorem f_element (B : BAS n X Le tl w rb ran Kf b h) (x i : Int32) : ∃ r, m_Home_element 0 x i h = some r ∧ m_Model_element 670 x i h = some r := by
  obtain ⟨⟨h0, m, hm, m1, m4, m6, m19, m27⟩, cT, cH, ⟨w10, cK⟩, cR, cS, cC, cA, cX⟩ := id B
  have n1 := nI1_0
  have n0 := nI0_0
  have cvh := fun {α : Type} (o : Option α) => HO_cv h0 o
  have cvm := fun {α : Type} (o : Option α) => MO_cv h m hm o
  obtain ⟨r11, rS⟩ := cSh_at cX h0
  rcases ix_cases x 6 (by omega) with ⟨z, -⟩ | ⟨s, hs, rfl, z⟩
  · have i1 := isShelf_ix x h
    have i2 := isShelf_M x h
    rw [z, if_pos rfl] at i1 i2
    have c : ((0 : Int32) ≤ -1) = False := eq_false (by decide)
    have c2 : ((-1 : Int32) = 0) = False := eq_false (by decide)
    exact ⟨-9223372036854775808, by simp only [m_Home_element, cvh, m_Home_wantPlace, i1, bind_some', n0, if_true, c, if_false], by simp only [m_Model_element, cvm, m_Model_refusal, i2, bind_some', n0, if_true, c2, if_false]⟩
  · obtain ⟨so, wy, l, el, it, sf, mf, k2, l60, k3, q5, q3, q4, k4, eC, eM, ok⟩ := want_both hs h0 hm w10 cX i
    by_cases q : wantC so wy l i = nI 1
    · obtain ⟨j, hj, rfl⟩ := wantC_ok l60 q
      rw [q] at eC eM
      rw [if_pos rfl] at eM
      have pl := sh_place l60 k2 (nI j)
      rw [ix_nI hj (by omega)] at pl
      have e0 : ((some j : Option Nat) = none) = False := by simp
      simp only [e0, if_false] at pl
      have cv := fun {α : Type} (o : Option α) => SHE_cv k2 o
      have r0 := (SHE_rd k2).2.1
      have c1 : ((0 : Int32) ≤ nI 1) = True := nI_0le (by omega)
      have l1 : zaJ h (659 + 2 * s) (nI j) = some (el j) := zaJ_of k3 (by omega) (by omega)
      have f31 : zrR h 670 7 31 = some 691 := (MO_ref _ m hm).2.2.2.2.2.2.2.2.2.2.2.2.2.2.2.2.2.2.2.2.1
      have l2 : zaJ h 691 (nI (60 * s + j)) = some (el j) := by rw [zaJ_of q5 (by omega) (by omega), k4 j (by omega)]
      exact ⟨el j, by simp only [m_Home_element, cvh, eC, bind_some', c1, if_true, r11, rS s hs, cv, m_Shelf_at, pl, n1, if_false, r0, l1], by simp only [m_Model_element, cvm, eM, bind_some', n0, if_true, f31, pk_mul, nI_add, l2]⟩
    · obtain ⟨y1, y2⟩ := wantC_no q
      rw [if_neg q] at eM
      exact ⟨-9223372036854775808, by simp only [m_Home_element, cvh, eC, bind_some', y1, if_false], by simp only [m_Model_element, cvm, eM, bind_some', y2, if_false]⟩
theorem mt_tab : ∀ kd, kd < 9 → ∀ k, k < 9 → ∀ (j : Nat) (h : zH) (x : Int32), zloop (g_Model_taken_59 670 x (nI k) h) (j + 5) (nI kd) = if k ∈ chain kd then g_Model_taken_76 670 x (nI k) (nI k) h else g_Model_taken_76 670 x (nI k) (nI 0) h := by
  intro kd hkd k hk m h x
  rcases (show kd = 0 ∨ kd = 1 ∨ kd = 2 ∨ kd = 3 ∨ kd = 4 ∨ kd = 5 ∨ kd = 6 ∨ kd = 7 ∨ kd = 8 by omega) with rfl | rfl | rfl | rfl | rfl | rfl | rfl | rfl | rfl <;>
  rcases (show k = 0 ∨ k = 1 ∨ k = 2 ∨ k = 3 ∨ k = 4 ∨ k = 5 ∨ k = 6 ∨ k = 7 ∨ k = 8 by omega) with rfl | rfl | rfl | rfl | rfl | rfl | rfl | rfl | rfl <;> rfl
theorem chain_0 (kd : Nat) : 0 ∈ chain kd := by
  unfold chain
  split <;> simp
theorem f_taken (B : BAS n X Le tl w rb ran Kf b h) (x y : Int32) : ∃ r, m_Home_taken 0 x y h = some r ∧ m_Model_taken 670 x y h = some r := by
  obtain ⟨⟨h0, m, hm, m1, m4, m6, m19, m27⟩, cT, cH, ⟨w10, ka, kb, kk⟩, cR, cS, cC, cA, cX⟩ := id B
  have n1 := nI1_0
  have n0 := nI0_0
  have cvh := fun {α : Type} (o : Option α) => HO_cv h0 o
  obtain ⟨r11, rS⟩ := cSh_at cX h0
  have i1 := isShelf_ix x h
  have i2 := isShelf_M x h
  have i3 := isKind_ix y h
  have i4 := M_wX (h := h) (x := y) (b := 8) (hi := 8) rfl (by omega)
  have e9 : 8 + 1 = 9 := rfl
  rw [e9] at i4
  have f29 : zrR h 670 7 29 = some 689 := (MO_ref _ m hm).2.2.2.2.2.2.2.2.2.2.2.2.2.2.2.2.2.2.1
  have f5 : zrR h 670 7 5 = some 674 := (MO_ref _ m hm).2.2.2.1
  have r3 : zrR h 0 6 3 = some 18 := (HO_rd h0).2.2.2.2.1
  rcases ix_cases x 6 (by omega) with ⟨z, -⟩ | ⟨s, hs, rfl, z⟩
  · rw [z, if_pos rfl] at i1 i2
    exact ⟨-1, by simp only [m_Home_taken, i1, bind_some', n0, if_true], by simp only [m_Model_taken, i2, bind_some', n0, if_true]⟩
  rw [z] at i1 i2
  have e0 : ((some s : Option Nat) = none) = False := by simp
  simp only [e0, if_false] at i1 i2
  rcases ix_cases y 9 (by omega) with ⟨z2, -⟩ | ⟨k, hk, rfl, z2⟩
  · rw [z2, if_pos rfl] at i3 i4
    exact ⟨-1, by simp only [m_Home_taken, i1, bind_some', n1, if_false, i3, n0, if_true], by simp only [m_Model_taken, i2, bind_some', n1, if_false, i4, n0, if_true]⟩
  rw [z2] at i3 i4
  have e0k : ((some k : Option Nat) = none) = False := by simp
  simp only [e0k, if_false] at i3 i4
  obtain ⟨⟨g, q1, q2⟩, sf, mf, it, q3, q4, q5, q6, q7⟩ := id cX
  obtain ⟨len, so, wy, el, k1, k2, k3, k4⟩ := q7 s hs
  have cv := fun {α : Type} (o : Option α) => SHE_cv k2 o
  have e1 := sh_empty k2
  have rw3 := (SHE_rd k2).2.2.2.2.1
  have l1 : zaI h 689 (nI s) = some (sf s) := zA32_of q3 hs (by omega)
  rcases k1 with ⟨a1, a2, a3, a4, a5⟩ | ⟨u, hu, a1, a2, a3, a4, a5⟩ | ⟨t, l, ht, hl, a1, a2, a3, a4, a5⟩
  · subst a1; subst a2; subst a3
    rw [if_pos ⟨rfl, rfl⟩] at e1
    have c : ((0 : Int32) ≤ -1) = False := eq_false (by decide)
    exact ⟨-11, by simp only [m_Home_taken, i1, bind_some', n1, if_false, i3, r11, rS s hs, cv, e1], by simp only [m_Model_taken, i2, bind_some', n1, if_false, i4, f29, l1, a4, c]⟩
  · subst a1; subst a2; subst a3
    have cy : (nI u = -1) = False := nI_eqm1 (by omega)
    rw [if_neg (fun q => by rw [cy] at q; exact q.1)] at e1
    have iw := isWay_H h0 w10 (nI u)
    rw [ix_nI hu (by omega)] at iw
    have e0u : ((some u : Option Nat) = none) = False := by simp
    simp only [e0u, if_false] at iw
    obtain ⟨kd, hkd, ekd⟩ := kk u hu
    have lk : zaI h 18 (nI u) = some (nI kd) := by rw [zaI, zA32_of ka (by omega) (by omega), ekd]
    have lk2 : zaI h 674 (nI u) = some (nI kd) := by rw [zaI, zA32_of kb (by omega) (by omega), ekd]
    have c : ((0 : Int32) ≤ nI u) = True := nI_0le (by omega)
    have c2 : (u < 10) = True := eq_true (by omega)
    obtain ⟨mm, hmm⟩ := zN10
    have tb : zloop (g_Model_taken_59 670 (nI s) (nI k) h) zN (nI kd) = if k ∈ chain kd then g_Model_taken_76 670 (nI s) (nI k) (nI k) h else g_Model_taken_76 670 (nI s) (nI k) (nI 0) h := by
      rw [hmm]
      exact mt_tab kd hkd k hk (mm + 7) h (nI s)
    have un := s_under hkd hk h
    by_cases ch : k ∈ chain kd
    · rw [if_pos ch] at tb un
      have cT' : (nI k = nI k) = True := by simp
      refine ⟨nI kd, ?_, ?_⟩
      · simp only [m_Home_taken, i1, bind_some', n1, if_false, i3, r11, rS s hs, cv, e1, n0, if_true, m_Shelf_heldWay, rw3, cvh, iw, r3, lk, un]
      · simp (disch := omega) only [m_Model_taken, i2, bind_some', n1, if_false, i4, f29, l1, a4, c, if_true, nI_lt_iff, c2, f5, lk2, tb, g_Model_taken_76, cT']
    · rw [if_neg ch] at tb un
      have cF : (0 = k) = False := eq_false (fun q => ch (q ▸ chain_0 kd))
      refine ⟨-12, ?_, ?_⟩
      · simp only [m_Home_taken, i1, bind_some', n1, if_false, i3, r11, rS s hs, cv, e1, n0, if_true, m_Shelf_heldWay, rw3, cvh, iw, r3, lk, un]
      · simp (disch := omega) only [m_Model_taken, i2, bind_some', n1, if_false, i4, f29, l1, a4, c, if_true, nI_lt_iff, c2, f5, lk2, tb, g_Model_taken_76, nI_eq_iff, cF]
  · subst a1; subst a2; subst a3
    have ct : (nI t = -1) = False := nI_eqm1 (by omega)
    rw [if_neg (fun q => by rw [ct] at q; exact q.2)] at e1
    have iw := isWay_H h0 w10 (-1)
    have zm : ix (-1) w = none := by
      unfold ix
      rw [if_pos (Or.inl (by decide))]
    rw [zm, if_pos rfl] at iw
    have c : ((0 : Int32) ≤ nI (10 + t)) = True := nI_0le (by omega)
    have c2 : (10 + t < 10) = False := eq_false (by omega)
    refine ⟨-12, ?_, ?_⟩
    · simp only [m_Home_taken, i1, bind_some', n1, if_false, i3, r11, rS s hs, cv, e1, n0, if_true, m_Shelf_heldWay, rw3, cvh, iw]
    · simp (disch := omega) only [m_Model_taken, i2, bind_some', n1, if_false, i4, f29, l1, a4, c, if_true, nI_lt_iff, c2]
end SHW
