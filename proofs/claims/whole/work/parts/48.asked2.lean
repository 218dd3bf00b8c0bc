/-! WHAT IS ASKED OF HUTS, WORDS, NOTES IN RUNS -/
theorem huts_has {h : zH} {n : Nat} {X : Nat → Nat → Nat} {Le : Nat → Nat} (c : cHuts n X Le h) (x : Int32) : m_Huts_has 2 x h = some (if ix x n = none then nI 0 else nI 1) ∧ ∀ {α : Type} (o : Option α), zcv h 2 1 o = o :=
  ⟨(c.HU h (fun _ _ _ => rfl)).2.2.1 x, fun o => zcv_of (c.HU h (fun _ _ _ => rfl)).2.1⟩
section CALLS5
variable {h : zH} {n tl w rb ran b : Nat} {X : Nat → Nat → Nat} {Le : Nat → Nat} {Kf : Nat → Int32}
theorem f_total (B : BAS n X Le tl w rb ran Kf b h) (x : Int32) : ∃ r h2, m_Home_total 0 x h = some r ∧ m_Model_total 670 x h = some (r, h2) ∧ BAS n X Le tl w rb ran Kf b h2 ∧ ∀ k, 21 ≤ k → k < 643 → h2 k = h k := by
  obtain ⟨⟨h0, m, hm, m1, m4, m6, m19, m27⟩, cT, cH, ⟨w10, k18, k674, kk⟩, cR, cS, cC, cA, cX⟩ := id B
  have n1 := nI1_0
  have n0 := nI0_0
  have r4 := cR.1
  have cvh := fun {α : Type} (o : Option α) => HO_cv h0 o
  have cvm := fun {α : Type} (o : Option α) => MO_cv h m hm o
  have ir := isRun_H h0 r4 x
  have ir' := isRun_M hm m19 r4 x
  rcases ix_cases x rb (by omega) with ⟨z, -⟩ | ⟨r, hr, rfl, z⟩
  · rw [z, if_pos rfl] at ir ir'
    exact ⟨-1, h, by simp only [m_Home_total, cvh, ir, bind_some', n0, if_true], by simp only [m_Model_total, cvm, ir', bind_some', n0, if_true], B, fun _ _ _ => rfl⟩
  rw [z] at ir ir'
  have e0 : ((some r : Option Nat) = none) = False := by simp
  simp only [e0, if_false] at ir ir'
  obtain ⟨q5, r19⟩ := cRuns_at cR h0
  obtain ⟨wy, kd, c, g, KP, rW, rS, rA, rB, sA, oA, mm, a1, a2, a3, a4, C, M, V, o1, o2, r4', n0', mm4⟩ := BAS_at B hr
  obtain ⟨tk, B2, fr2⟩ := BAS_take B hr a1 a2 a3 a4 C M V o1 o2 w10 k674 r4'
  have cvr : ∀ {α : Type} (o : Option α), zcv h (646 + 3 * r) 4 o = o := fun o => zcv_of (zcls_of C.1)
  have fam := RC_fam C
  have k1 := M_k1 a2 (fm := fmo kd) rfl
  have f1 : (nI (fmo kd) = nI 1) = (fmo kd = 1) := nI_eq_iff (by have := fmo_lt kd; omega) (by omega)
  by_cases c1 : fmo kd = 1
  · exact ⟨g 74, _, by simp only [m_Home_total, cvh, ir, bind_some', n1, if_false, q5, r19 r r4', cvr, fam, f1, eq_true c1, if_true, RC_cell C (show 74 < 123 by omega)], by simp only [m_Model_total, cvm, ir', bind_some', n1, if_false, tk, tk_10, k1, eq_true c1, if_true, tk_now, tk_ld pm_c.2.2.1], B2, fr2⟩
  · exact ⟨-2, _, by simp only [m_Home_total, cvh, ir, bind_some', n1, if_false, q5, r19 r r4', cvr, fam, f1, eq_false c1], by simp only [m_Model_total, cvm, ir', bind_some', n1, if_false, tk, tk_10, k1, eq_false c1], B2, fr2⟩
theorem f_word (B : BAS n X Le tl w rb ran Kf b h) (x i y : Int32) : ∃ r h2, m_Home_word 0 x i y h = some r ∧ m_Model_word 670 x i y h = some (r, h2) ∧ BAS n X Le tl w rb ran Kf b h2 ∧ ∀ k, 21 ≤ k → k < 643 → h2 k = h k := by
  obtain ⟨⟨h0, m, hm, m1, m4, m6, m19, m27⟩, cT, cH, ⟨w10, k18, k674, kk⟩, cR, cS, cC, cA, cX⟩ := id B
  have n1 := nI1_0
  have n0 := nI0_0
  have r4 := cR.1
  have cvh := fun {α : Type} (o : Option α) => HO_cv h0 o
  have cvm := fun {α : Type} (o : Option α) => MO_cv h m hm o
  have ir := isRun_H h0 r4 x
  have ir' := isRun_M hm m19 r4 x
  rcases ix_cases x rb (by omega) with ⟨z, -⟩ | ⟨r, hr, rfl, z⟩
  · rw [z, if_pos rfl] at ir ir'
    exact ⟨-1, h, by simp only [m_Home_word, cvh, ir, bind_some', n0, if_true], by simp only [m_Model_word, cvm, ir', bind_some', n0, if_true], B, fun _ _ _ => rfl⟩
  rw [z] at ir ir'
  have e0 : ((some r : Option Nat) = none) = False := by simp
  simp only [e0, if_false] at ir ir'
  obtain ⟨q5, r19⟩ := cRuns_at cR h0
  obtain ⟨wy, kd, c, g, KP, rW, rS, rA, rB, sA, oA, mm, a1, a2, a3, a4, C, M, V, o1, o2, r4', n0', mm4⟩ := BAS_at B hr
  obtain ⟨tk, B2, fr2⟩ := BAS_take B hr a1 a2 a3 a4 C M V o1 o2 w10 k674 r4'
  have cvr : ∀ {α : Type} (o : Option α), zcv h (646 + 3 * r) 4 o = o := fun o => zcv_of (zcls_of C.1)
  obtain ⟨wd, w8, hw, -, -⟩ := V.1
  have c18 := RC_cell C (x := 18) (by omega)
  have wi := M_wX (h := h) (x := y) (b := 2) (hi := 2) rfl (by omega)
  rcases ix_cases y 3 (by omega) with ⟨z2, -⟩ | ⟨t, ht, rfl, z2⟩
  · have wi : m_Model_within y.toInt64 0 2 h = some (nI 0) := by rw [wi, show 2 + 1 = 3 from rfl, z2]; rfl
    refine ⟨-1, h, ?_, by simp only [m_Model_word, cvm, ir', bind_some', n1, if_false, wi, n0, if_true], B, fun _ _ _ => rfl⟩
    have y0 : (y = nI 0) = False := eq_false (fun q => by rw [q, ix_nI (by omega) (by omega)] at z2; cases z2)
    have y1 : (y = nI 1) = False := eq_false (fun q => by rw [q, ix_nI (by omega) (by omega)] at z2; cases z2)
    have y2 : (y = nI 2) = False := eq_false (fun q => by rw [q, ix_nI (by omega) (by omega)] at z2; cases z2)
    by_cases i0 : i < 0
    · simp only [m_Home_word, cvh, ir, bind_some', n1, if_false, eq_true i0, if_true]
    · by_cases iw : i < g 18
      · simp only [m_Home_word, cvh, ir, bind_some', n1, if_false, eq_false i0, q5, r19 r r4', cvr, c18, eq_true iw, if_true, y0, y1, y2]
      · simp only [m_Home_word, cvh, ir, bind_some', n1, if_false, eq_false i0, q5, r19 r r4', cvr, c18, eq_false iw]
  · have wi : m_Model_within (nI t).toInt64 0 2 h = some (nI 1) := by rw [wi, show 2 + 1 = 3 from rfl, z2]; rfl
    by_cases i0 : i < 0
    · exact ⟨-1, _, by simp only [m_Home_word, cvh, ir, bind_some', n1, if_false, eq_true i0, if_true], by simp only [m_Model_word, cvm, ir', bind_some', n1, if_false, wi, tk, eq_true i0, if_true], B2, fr2⟩
    · by_cases iw : i < g 18
      · have iw' : (g 18 ≤ i) = False := eq_false (Int32.not_le.mpr iw)
        obtain ⟨j, hj, rfl⟩ := nI_of i0
        have jw : j < wd := by rw [hw] at iw; exact (nI_ltI hj (by omega)).mp iw
        have p : pm (fmo kd) n (37 + 3 * j + t) = some (19 + 8 * t + j) := pmW (by omega) ht
        refine ⟨g (19 + 8 * t + j), _, ?_, by simp only [m_Model_word, cvm, ir', bind_some', n1, if_false, wi, tk, eq_false i0, tk_cv, tk_words, iw', tk_now, pk_mul, nI_add, tk_ld p], B2, fr2⟩
        rcases (show t = 0 ∨ t = 1 ∨ t = 2 by omega) with rfl | rfl | rfl
        · have c1 := RC_cell C (x := 19 + j) (by omega)
          simp only [m_Home_word, cvh, ir, bind_some', n1, if_false, eq_false i0, q5, r19 r r4', cvr, c18, eq_true iw, if_true, nI_add, c1]
        · have c1 := RC_cell C (x := 27 + j) (by omega)
          have d0 : (nI 1 = nI 0) = False := eq_false (by decide)
          simp only [m_Home_word, cvh, ir, bind_some', n1, if_false, eq_false i0, q5, r19 r r4', cvr, c18, eq_true iw, if_true, d0, nI_add, c1]
        · have c1 := RC_cell C (x := 35 + j) (by omega)
          have d0 : (nI 2 = nI 0) = False := eq_false (by decide)
          have d1 : (nI 2 = nI 1) = False := eq_false (by decide)
          simp only [m_Home_word, cvh, ir, bind_some', n1, if_false, eq_false i0, q5, r19 r r4', cvr, c18, eq_true iw, if_true, d0, d1, nI_add, c1]
      · have iw' : (g 18 ≤ i) = True := eq_true (Int32.not_lt.mp iw)
        exact ⟨-1, _, by simp only [m_Home_word, cvh, ir, bind_some', n1, if_false, eq_false i0, q5, r19 r r4', cvr, c18, eq_false iw], by simp only [m_Model_word, cvm, ir', bind_some', n1, if_false, wi, tk, eq_false i0, tk_cv, tk_words, iw', if_true], B2, fr2⟩
theorem f_note (B : BAS n X Le tl w rb ran Kf b h) (x i y : Int32) : ∃ r h2, m_Home_note 0 x i y h = some r ∧ m_Model_note 670 x i y h = some (r, h2) ∧ BAS n X Le tl w rb ran Kf b h2 ∧ ∀ k, 21 ≤ k → k < 643 → h2 k = h k := by
  obtain ⟨⟨h0, m, hm, m1, m4, m6, m19, m27⟩, cT, cH, ⟨w10, k18, k674, kk⟩, cR, cS, cC, cA, cX⟩ := id B
  have n1 := nI1_0
  have n0 := nI0_0
  have r4 := cR.1
  have cvh := fun {α : Type} (o : Option α) => HO_cv h0 o
  have cvm := fun {α : Type} (o : Option α) => MO_cv h m hm o
  have ir := isRun_H h0 r4 x
  have ir' := isRun_M hm m19 r4 x
  rcases ix_cases x rb (by omega) with ⟨z, -⟩ | ⟨r, hr, rfl, z⟩
  · rw [z, if_pos rfl] at ir ir'
    exact ⟨-2000000000, h, by simp only [m_Home_note, cvh, ir, bind_some', n0, if_true], by simp only [m_Model_note, cvm, ir', bind_some', n0, if_true], B, fun _ _ _ => rfl⟩
  rw [z] at ir ir'
  have e0 : ((some r : Option Nat) = none) = False := by simp
  simp only [e0, if_false] at ir ir'
  obtain ⟨q5, r19⟩ := cRuns_at cR h0
  obtain ⟨wy, kd, c, g, KP, rW, rS, rA, rB, sA, oA, mm, a1, a2, a3, a4, C, M, V, o1, o2, r4', n0', mm4⟩ := BAS_at B hr
  obtain ⟨tk, B2, fr2⟩ := BAS_take B hr a1 a2 a3 a4 C M V o1 o2 w10 k674 r4'
  have cvr : ∀ {α : Type} (o : Option α), zcv h (646 + 3 * r) 4 o = o := fun o => zcv_of (zcls_of C.1)
  obtain ⟨wd, w8, hw, -, -⟩ := V.2.1
  have c18 := RC_cell C (x := 43) (by omega)
  have wi := M_wX (h := h) (x := y) (b := 2) (hi := 2) rfl (by omega)
  rcases ix_cases y 3 (by omega) with ⟨z2, -⟩ | ⟨t, ht, rfl, z2⟩
  · have wi : m_Model_within y.toInt64 0 2 h = some (nI 0) := by rw [wi, show 2 + 1 = 3 from rfl, z2]; rfl
    refine ⟨-2000000000, h, ?_, by simp only [m_Model_note, cvm, ir', bind_some', n1, if_false, wi, n0, if_true], B, fun _ _ _ => rfl⟩
    have y0 : (y = nI 0) = False := eq_false (fun q => by rw [q, ix_nI (by omega) (by omega)] at z2; cases z2)
    have y1 : (y = nI 1) = False := eq_false (fun q => by rw [q, ix_nI (by omega) (by omega)] at z2; cases z2)
    have y2 : (y = nI 2) = False := eq_false (fun q => by rw [q, ix_nI (by omega) (by omega)] at z2; cases z2)
    by_cases i0 : i < 0
    · simp only [m_Home_note, cvh, ir, bind_some', n1, if_false, eq_true i0, if_true]
    · by_cases iw : i < g 43
      · simp only [m_Home_note, cvh, ir, bind_some', n1, if_false, eq_false i0, q5, r19 r r4', cvr, c18, eq_true iw, if_true, y0, y1, y2]
      · simp only [m_Home_note, cvh, ir, bind_some', n1, if_false, eq_false i0, q5, r19 r r4', cvr, c18, eq_false iw]
  · have wi : m_Model_within (nI t).toInt64 0 2 h = some (nI 1) := by rw [wi, show 2 + 1 = 3 from rfl, z2]; rfl
    by_cases i0 : i < 0
    · exact ⟨-2000000000, _, by simp only [m_Home_note, cvh, ir, bind_some', n1, if_false, eq_true i0, if_true], by simp only [m_Model_note, cvm, ir', bind_some', n1, if_false, wi, tk, eq_true i0, if_true], B2, fr2⟩
    · by_cases iw : i < g 43
      · have iw' : (g 43 ≤ i) = False := eq_false (Int32.not_le.mpr iw)
        obtain ⟨j, hj, rfl⟩ := nI_of i0
        have jw : j < wd := by rw [hw] at iw; exact (nI_ltI hj (by omega)).mp iw
        have p : pm (fmo kd) n (62 + 3 * j + t) = some (44 + 8 * t + j) := pmN (by omega) ht
        refine ⟨g (44 + 8 * t + j), _, ?_, by simp only [m_Model_note, cvm, ir', bind_some', n1, if_false, wi, tk, eq_false i0, tk_cv, tk_notes, iw', tk_now, pk_mul, nI_add, tk_ld p], B2, fr2⟩
        rcases (show t = 0 ∨ t = 1 ∨ t = 2 by omega) with rfl | rfl | rfl
        · have c1 := RC_cell C (x := 44 + j) (by omega)
          simp only [m_Home_note, cvh, ir, bind_some', n1, if_false, eq_false i0, q5, r19 r r4', cvr, c18, eq_true iw, if_true, nI_add, c1]
        · have c1 := RC_cell C (x := 52 + j) (by omega)
          have d0 : (nI 1 = nI 0) = False := eq_false (by decide)
          simp only [m_Home_note, cvh, ir, bind_some', n1, if_false, eq_false i0, q5, r19 r r4', cvr, c18, eq_true iw, if_true, d0, nI_add, c1]
        · have c1 := RC_cell C (x := 60 + j) (by omega)
          have d0 : (nI 2 = nI 0) = False := eq_false (by decide)
          have d1 : (nI 2 = nI 1) = False := eq_false (by decide)
          simp only [m_Home_note, cvh, ir, bind_some', n1, if_false, eq_false i0, q5, r19 r r4', cvr, c18, eq_true iw, if_true, d0, d1, nI_add, c1]
      · have iw' : (g 43 ≤ i) = True := eq_true (Int32.not_lt.mp iw)
        exact ⟨-2000000000, _, by simp only [m_Home_note, cvh, ir, bind_some', n1, if_false, eq_false i0, q5, r19 r r4', cvr, c18, eq_false iw], by simp only [m_Model_note, cvm, ir', bind_some', n1, if_false, wi, tk, eq_false i0, tk_cv, tk_notes, iw', if_true], B2, fr2⟩
def hcT (t : Nat) : Nat := match t with
  | 0 => 0
  | 1 => 6
  | 2 => 12
  | 3 => 68
  | 4 => 75
  | 5 => 81
  | 6 => 87
  | 7 => 93
  | 8 => 99
  | 9 => 105
  | _ => 111
theorem ztab2 : ∀ t, t < 11 → ztab 2 (nI t) = some (nI (hcT t)) := by
  intro t ht
  rcases (show t = 0 ∨ t = 1 ∨ t = 2 ∨ t = 3 ∨ t = 4 ∨ t = 5 ∨ t = 6 ∨ t = 7 ∨ t = 8 ∨ t = 9 ∨ t = 10 by omega) with rfl | rfl | rfl | rfl | rfl | rfl | rfl | rfl | rfl | rfl | rfl <;> rfl
theorem f_ofHut (B : BAS n X Le tl w rb ran Kf b h) (x u y : Int32) : ∃ r h2, m_Home_ofHut 0 x u y h = some r ∧ m_Model_ofHut 670 x u y h = some (r, h2) ∧ BAS n X Le tl w rb ran Kf b h2 ∧ ∀ k, 21 ≤ k → k < 643 → h2 k = h k := by
  obtain ⟨⟨h0, m, hm, m1, m4, m6, m19, m27⟩, cT, cH, ⟨w10, k18, k674, kk⟩, cR, cS, cC, cA, cX⟩ := id B
  have n1 := nI1_0
  have n0 := nI0_0
  have r4 := cR.1
  have n6 := cH.1
  have cvh := fun {α : Type} (o : Option α) => HO_cv h0 o
  have cvm := fun {α : Type} (o : Option α) => MO_cv h m hm o
  have ir := isRun_H h0 r4 x
  have ir' := isRun_M hm m19 r4 x
  have ih := isHut_M hm m4 n6 u
  obtain ⟨hs, cv2⟩ := huts_has cH u
  have q2 : zrR h 0 6 2 = some 2 := (HO_rd h0).2.2.2.1
  rcases ix_cases x rb (by omega) with ⟨z, -⟩ | ⟨r, hr, rfl, z⟩
  · rw [z, if_pos rfl] at ir ir'
    exact ⟨-2000000000, h, by simp only [m_Home_ofHut, cvh, ir, bind_some', n0, if_true], by simp only [m_Model_ofHut, cvm, ir', bind_some', n0, if_true], B, fun _ _ _ => rfl⟩
  rw [z] at ir ir'
  have e0 : ((some r : Option Nat) = none) = False := by simp
  simp only [e0, if_false] at ir ir'
  rcases ix_cases u n (by omega) with ⟨z3, -⟩ | ⟨hh, hhn, rfl, z3⟩
  · rw [z3, if_pos rfl] at ih hs
    exact ⟨-2000000000, h, by simp only [m_Home_ofHut, cvh, ir, bind_some', n1, if_false, q2, cv2, hs, n0, if_true], by simp only [m_Model_ofHut, cvm, ir', bind_some', n1, if_false, ih, n0, if_true], B, fun _ _ _ => rfl⟩
  rw [z3] at ih hs
  have e0h : ((some hh : Option Nat) = none) = False := by simp
  simp only [e0h, if_false] at ih hs
  obtain ⟨q5, r19⟩ := cRuns_at cR h0
  obtain ⟨wy, kd, c, g, KP, rW, rS, rA, rB, sA, oA, mm, a1, a2, a3, a4, C, M, V, o1, o2, r4', n0', mm4⟩ := BAS_at B hr
  obtain ⟨tk, B2, fr2⟩ := BAS_take B hr a1 a2 a3 a4 C M V o1 o2 w10 k674 r4'
  have cvr : ∀ {α : Type} (o : Option α), zcv h (646 + 3 * r) 4 o = o := fun o => zcv_of (zcls_of C.1)
  have fam := RC_fam C
  have fl := fmo_lt kd
  have k1 := M_k1 a2 (fm := fmo kd) rfl
  have u2 := M_u2 a2 (fm := fmo kd) rfl (tkH h n kd KP rW rS rA rB sA oA mm g)
  have u4 := M_u4 a2 (fm := fmo kd) rfl (tkH h n kd KP rW rS rA rB sA oA mm g)
  have u5 := M_u5 a2 (fm := fmo kd) rfl (tkH h n kd KP rW rS rA rB sA oA mm g)
  rcases ix_cases y 11 (by omega) with ⟨z2, c2⟩ | ⟨t, ht, rfl, z2⟩
  · have ne : ∀ k, k < 11 → (y = nI k) = False := fun k hk => eq_false (fun q => by rw [q, ix_nI hk (by omega)] at z2; cases z2)
    refine ⟨-2000000000, _, ?_, by simp only [m_Model_ofHut, cvm, ir', bind_some', n1, if_false, ih, tk, tk_10, u2, u4, u5, ne 0 (by omega), ne 1 (by omega), ne 2 (by omega), ne 3 (by omega), ne 4 (by omega), ne 5 (by omega), ne 6 (by omega), ne 7 (by omega), ne 8 (by omega), ne 9 (by omega), ne 10 (by omega)], B2, fr2⟩
    by_cases y0 : y < 0
    · simp only [m_Home_ofHut, cvh, ir, bind_some', n1, if_false, q2, cv2, hs, eq_true y0, if_true]
    · have y1 : (y < nI 11) = False := eq_false (Int32.not_lt.mpr (c2.resolve_left y0))
      simp only [m_Home_ofHut, cvh, ir, bind_some', n1, if_false, q2, cv2, hs, eq_false y0, y1]
  · have t11 : (t < 11) = True := eq_true ht
    have cell := RC_cell C (x := hcT t + hh) (by
      rcases (show t = 0 ∨ t = 1 ∨ t = 2 ∨ t = 3 ∨ t = 4 ∨ t = 5 ∨ t = 6 ∨ t = 7 ∨ t = 8 ∨ t = 9 ∨ t = 10 by omega) with rfl | rfl | rfl | rfl | rfl | rfl | rfl | rfl | rfl | rfl | rfl <;> (simp only [hcT]; omega))
    have g63 : g_Home_ofHut_63 0 (nI r) (nI hh) (nI t) h = some (g (hcT t + hh)) := by
      simp only [g_Home_ofHut_63, q5, bind_some', r19 r r4', ztab2 t ht, cvr, nI_add, cell]
    have pre : ∀ fv : Int32, ztab 3 (nI t) = some fv → m_Home_ofHut 0 (nI r) (nI hh) (nI t) h = some (if fv = -1 ∨ fv = nI (fmo kd) then g (hcT t + hh) else -2000000000) := fun fv hv => by
      by_cases b1 : fv = -1
      · rw [if_pos (Or.inl b1)]
        simp (disch := omega) only [↓reduceIte, m_Home_ofHut, cvh, ir, bind_some', n1, if_false, q2, cv2, hs, nI_lt0, nI_lt_iff, t11, if_true, hv, eq_true b1, g63]
      · by_cases b2 : fv = nI (fmo kd)
        · rw [if_pos (Or.inr b2)]
          simp (disch := omega) only [↓reduceIte, m_Home_ofHut, cvh, ir, bind_some', n1, if_false, q2, cv2, hs, nI_lt0, nI_lt_iff, t11, if_true, hv, eq_false b1, q5, r19 r r4', cvr, fam, eq_true b2, g63]
        · rw [if_neg (fun q => q.elim b1 b2)]
          simp (disch := omega) only [↓reduceIte, m_Home_ofHut, cvh, ir, bind_some', n1, if_false, q2, cv2, hs, nI_lt0, nI_lt_iff, t11, if_true, hv, eq_false b1, q5, r19 r r4', cvr, fam, eq_false b2]
    have hh6 : hh < 6 := by omega
    have fI : ∀ k, k < 6 → (nI k = nI (fmo kd)) = (fmo kd = k) := fun k hk => by
      rw [nI_eq_iff (by omega) (by omega)]
      exact propext ⟨fun q => q.symm, fun q => q.symm⟩
    have m1k : ∀ k, k < 6 → (nI k = -1) = False := fun k hk => nI_eqm1 (by omega)
    have neq : ∀ a k, a < 11 → k < 11 → a ≠ k → (nI a = nI k) = False := fun a k h1 h2 q => eq_false (fun e => q ((nI_eq (by omega) (by omega)).mp e))
    rcases (show t = 0 ∨ t = 1 ∨ t = 2 ∨ t = 3 ∨ t = 4 ∨ t = 5 ∨ t = 6 ∨ t = 7 ∨ t = 8 ∨ t = 9 ∨ t = 10 by omega) with rfl | rfl | rfl | rfl | rfl | rfl | rfl | rfl | rfl | rfl | rfl
    · have p := pre (-1) rfl
      rw [if_pos (Or.inl rfl)] at p
      have pp : pm (fmo kd) n (6 * hh + 0) = some (hcT 0 + hh) := by rw [show hcT 0 + hh = hh from Nat.zero_add hh]; exact pm0 hh6
      exact ⟨_, _, p, by simp only [↓reduceIte, m_Model_ofHut, cvm, ir', bind_some', n1, if_false, ih, tk, tk_10, u2, u4, u5, if_true, tk_cv, tk_of pp], B2, fr2⟩
    · have p := pre (-1) rfl
      rw [if_pos (Or.inl rfl)] at p
      have pp : pm (fmo kd) n (6 * hh + 1) = some (hcT 1 + hh) := pm1 hh6
      exact ⟨_, _, p, by simp only [↓reduceIte, m_Model_ofHut, cvm, ir', bind_some', n1, if_false, ih, tk, tk_10, u2, u4, u5, neq 1 0 (by omega) (by omega) (by omega), if_true, tk_cv, tk_of pp], B2, fr2⟩
    · have p := pre (-1) rfl
      rw [if_pos (Or.inl rfl)] at p
      have pp : pm (fmo kd) n (6 * hh + 2) = some (hcT 2 + hh) := pm2 hh6
      exact ⟨_, _, p, by simp only [↓reduceIte, m_Model_ofHut, cvm, ir', bind_some', n1, if_false, ih, tk, tk_10, u2, u4, u5, neq 2 0 (by omega) (by omega) (by omega), neq 2 1 (by omega) (by omega) (by omega), if_true, tk_cv, tk_of pp], B2, fr2⟩
    · have p := pre (nI 1) rfl
      simp only [m1k 1 (by omega), false_or, fI 1 (by omega)] at p
      by_cases c1 : fmo kd = 1
      · rw [if_pos c1] at p
        have pp : pm (fmo kd) n (6 * hh + 3) = some (hcT 3 + hh) := by rw [c1]; exact pm3 hh6 (Or.inl rfl)
        exact ⟨_, _, p, by simp only [↓reduceIte, m_Model_ofHut, cvm, ir', bind_some', n1, if_false, ih, tk, tk_10, u2, u4, u5, neq 3 0 (by omega) (by omega) (by omega), neq 3 1 (by omega) (by omega) (by omega), neq 3 2 (by omega) (by omega) (by omega), if_true, k1, eq_true c1, tk_cv, tk_of pp], B2, fr2⟩
      · rw [if_neg c1] at p
        exact ⟨_, _, p, by simp only [↓reduceIte, m_Model_ofHut, cvm, ir', bind_some', n1, if_false, ih, tk, tk_10, u2, u4, u5, neq 3 0 (by omega) (by omega) (by omega), neq 3 1 (by omega) (by omega) (by omega), neq 3 2 (by omega) (by omega) (by omega), if_true, k1, eq_false c1], B2, fr2⟩
    · have p := pre (nI 2) rfl
      simp only [m1k 2 (by omega), false_or, fI 2 (by omega)] at p
      by_cases c1 : fmo kd = 2
      · rw [if_pos c1] at p u2
        have pp : pm (fmo kd) n (6 * hh + 3) = some (hcT 4 + hh) := by rw [c1]; exact pm3 hh6 (Or.inr (Or.inl rfl))
        exact ⟨_, _, p, by simp only [↓reduceIte, m_Model_ofHut, cvm, ir', bind_some', n1, if_false, ih, tk, tk_10, u2, u4, u5, neq 4 0 (by omega) (by omega) (by omega), neq 4 1 (by omega) (by omega) (by omega), neq 4 2 (by omega) (by omega) (by omega), neq 4 3 (by omega) (by omega) (by omega), if_true, tk_cv, tk_of pp], B2, fr2⟩
      · rw [if_neg c1] at p u2
        exact ⟨_, _, p, by simp only [↓reduceIte, m_Model_ofHut, cvm, ir', bind_some', n1, if_false, ih, tk, tk_10, u2, u4, u5, neq 4 0 (by omega) (by omega) (by omega), neq 4 1 (by omega) (by omega) (by omega), neq 4 2 (by omega) (by omega) (by omega), neq 4 3 (by omega) (by omega) (by omega), if_true, n0], B2, fr2⟩
    · have p := pre (nI 2) rfl
      simp only [m1k 2 (by omega), false_or, fI 2 (by omega)] at p
      by_cases c1 : fmo kd = 2
      · rw [if_pos c1] at p u2
        have pp : pm (fmo kd) n (6 * hh + 4) = some (hcT 5 + hh) := by rw [c1]; exact pm4 hh6 hhn (Or.inl rfl)
        exact ⟨_, _, p, by simp only [↓reduceIte, m_Model_ofHut, cvm, ir', bind_some', n1, if_false, ih, tk, tk_10, u2, u4, u5, neq 5 0 (by omega) (by omega) (by omega), neq 5 1 (by omega) (by omega) (by omega), neq 5 2 (by omega) (by omega) (by omega), neq 5 3 (by omega) (by omega) (by omega), neq 5 4 (by omega) (by omega) (by omega), if_true, tk_cv, tk_of pp], B2, fr2⟩
      · rw [if_neg c1] at p u2
        exact ⟨_, _, p, by simp only [↓reduceIte, m_Model_ofHut, cvm, ir', bind_some', n1, if_false, ih, tk, tk_10, u2, u4, u5, neq 5 0 (by omega) (by omega) (by omega), neq 5 1 (by omega) (by omega) (by omega), neq 5 2 (by omega) (by omega) (by omega), neq 5 3 (by omega) (by omega) (by omega), neq 5 4 (by omega) (by omega) (by omega), if_true, n0], B2, fr2⟩
    · have p := pre (nI 2) rfl
      simp only [m1k 2 (by omega), false_or, fI 2 (by omega)] at p
      by_cases c1 : fmo kd = 2
      · rw [if_pos c1] at p u2
        have pp : pm (fmo kd) n (6 * hh + 5) = some (hcT 6 + hh) := by rw [c1]; exact pm5 hh6
        exact ⟨_, _, p, by simp only [↓reduceIte, m_Model_ofHut, cvm, ir', bind_some', n1, if_false, ih, tk, tk_10, u2, u4, u5, neq 6 0 (by omega) (by omega) (by omega), neq 6 1 (by omega) (by omega) (by omega), neq 6 2 (by omega) (by omega) (by omega), neq 6 3 (by omega) (by omega) (by omega), neq 6 4 (by omega) (by omega) (by omega), neq 6 5 (by omega) (by omega) (by omega), if_true, tk_cv, tk_of pp], B2, fr2⟩
      · rw [if_neg c1] at p u2
        exact ⟨_, _, p, by simp only [↓reduceIte, m_Model_ofHut, cvm, ir', bind_some', n1, if_false, ih, tk, tk_10, u2, u4, u5, neq 6 0 (by omega) (by omega) (by omega), neq 6 1 (by omega) (by omega) (by omega), neq 6 2 (by omega) (by omega) (by omega), neq 6 3 (by omega) (by omega) (by omega), neq 6 4 (by omega) (by omega) (by omega), neq 6 5 (by omega) (by omega) (by omega), if_true, n0], B2, fr2⟩
    · have p := pre (nI 4) rfl
      simp only [m1k 4 (by omega), false_or, fI 4 (by omega)] at p
      by_cases c1 : fmo kd = 4
      · rw [if_pos c1] at p u4
        have pp : pm (fmo kd) n (6 * hh + 3) = some (hcT 7 + hh) := by rw [c1]; exact pm3 hh6 (Or.inr (Or.inr (Or.inl rfl)))
        exact ⟨_, _, p, by simp only [↓reduceIte, m_Model_ofHut, cvm, ir', bind_some', n1, if_false, ih, tk, tk_10, u2, u4, u5, neq 7 0 (by omega) (by omega) (by omega), neq 7 1 (by omega) (by omega) (by omega), neq 7 2 (by omega) (by omega) (by omega), neq 7 3 (by omega) (by omega) (by omega), neq 7 4 (by omega) (by omega) (by omega), neq 7 5 (by omega) (by omega) (by omega), neq 7 6 (by omega) (by omega) (by omega), if_true, tk_cv, tk_of pp], B2, fr2⟩
      · rw [if_neg c1] at p u4
        exact ⟨_, _, p, by simp only [↓reduceIte, m_Model_ofHut, cvm, ir', bind_some', n1, if_false, ih, tk, tk_10, u2, u4, u5, neq 7 0 (by omega) (by omega) (by omega), neq 7 1 (by omega) (by omega) (by omega), neq 7 2 (by omega) (by omega) (by omega), neq 7 3 (by omega) (by omega) (by omega), neq 7 4 (by omega) (by omega) (by omega), neq 7 5 (by omega) (by omega) (by omega), neq 7 6 (by omega) (by omega) (by omega), if_true, n0], B2, fr2⟩
    · have p := pre (nI 4) rfl
      simp only [m1k 4 (by omega), false_or, fI 4 (by omega)] at p
      by_cases c1 : fmo kd = 4
      · rw [if_pos c1] at p u4
        have pp : pm (fmo kd) n (6 * hh + 4) = some (hcT 8 + hh) := by rw [c1]; exact pm4 hh6 hhn (Or.inr (Or.inl rfl))
        exact ⟨_, _, p, by simp only [↓reduceIte, m_Model_ofHut, cvm, ir', bind_some', n1, if_false, ih, tk, tk_10, u2, u4, u5, neq 8 0 (by omega) (by omega) (by omega), neq 8 1 (by omega) (by omega) (by omega), neq 8 2 (by omega) (by omega) (by omega), neq 8 3 (by omega) (by omega) (by omega), neq 8 4 (by omega) (by omega) (by omega), neq 8 5 (by omega) (by omega) (by omega), neq 8 6 (by omega) (by omega) (by omega), neq 8 7 (by omega) (by omega) (by omega), if_true, tk_cv, tk_of pp], B2, fr2⟩
      · rw [if_neg c1] at p u4
        exact ⟨_, _, p, by simp only [↓reduceIte, m_Model_ofHut, cvm, ir', bind_some', n1, if_false, ih, tk, tk_10, u2, u4, u5, neq 8 0 (by omega) (by omega) (by omega), neq 8 1 (by omega) (by omega) (by omega), neq 8 2 (by omega) (by omega) (by omega), neq 8 3 (by omega) (by omega) (by omega), neq 8 4 (by omega) (by omega) (by omega), neq 8 5 (by omega) (by omega) (by omega), neq 8 6 (by omega) (by omega) (by omega), neq 8 7 (by omega) (by omega) (by omega), if_true, n0], B2, fr2⟩
    · have p := pre (nI 5) rfl
      simp only [m1k 5 (by omega), false_or, fI 5 (by omega)] at p
      by_cases c1 : fmo kd = 5
      · rw [if_pos c1] at p u5
        have pp : pm (fmo kd) n (6 * hh + 3) = some (hcT 9 + hh) := by rw [c1]; exact pm3 hh6 (Or.inr (Or.inr (Or.inr rfl)))
        exact ⟨_, _, p, by simp only [↓reduceIte, m_Model_ofHut, cvm, ir', bind_some', n1, if_false, ih, tk, tk_10, u2, u4, u5, neq 9 0 (by omega) (by omega) (by omega), neq 9 1 (by omega) (by omega) (by omega), neq 9 2 (by omega) (by omega) (by omega), neq 9 3 (by omega) (by omega) (by omega), neq 9 4 (by omega) (by omega) (by omega), neq 9 5 (by omega) (by omega) (by omega), neq 9 6 (by omega) (by omega) (by omega), neq 9 7 (by omega) (by omega) (by omega), neq 9 8 (by omega) (by omega) (by omega), if_true, tk_cv, tk_of pp], B2, fr2⟩
      · rw [if_neg c1] at p u5
        exact ⟨_, _, p, by simp only [↓reduceIte, m_Model_ofHut, cvm, ir', bind_some', n1, if_false, ih, tk, tk_10, u2, u4, u5, neq 9 0 (by omega) (by omega) (by omega), neq 9 1 (by omega) (by omega) (by omega), neq 9 2 (by omega) (by omega) (by omega), neq 9 3 (by omega) (by omega) (by omega), neq 9 4 (by omega) (by omega) (by omega), neq 9 5 (by omega) (by omega) (by omega), neq 9 6 (by omega) (by omega) (by omega), neq 9 7 (by omega) (by omega) (by omega), neq 9 8 (by omega) (by omega) (by omega), if_true, n0], B2, fr2⟩
    · have p := pre (nI 5) rfl
      simp only [m1k 5 (by omega), false_or, fI 5 (by omega)] at p
      by_cases c1 : fmo kd = 5
      · rw [if_pos c1] at p u5
        have pp : pm (fmo kd) n (6 * hh + 4) = some (hcT 10 + hh) := by rw [c1]; exact pm4 hh6 hhn (Or.inr (Or.inr rfl))
        exact ⟨_, _, p, by simp only [↓reduceIte, m_Model_ofHut, cvm, ir', bind_some', n1, if_false, ih, tk, tk_10, u2, u4, u5, neq 10 0 (by omega) (by omega) (by omega), neq 10 1 (by omega) (by omega) (by omega), neq 10 2 (by omega) (by omega) (by omega), neq 10 3 (by omega) (by omega) (by omega), neq 10 4 (by omega) (by omega) (by omega), neq 10 5 (by omega) (by omega) (by omega), neq 10 6 (by omega) (by omega) (by omega), neq 10 7 (by omega) (by omega) (by omega), neq 10 8 (by omega) (by omega) (by omega), neq 10 9 (by omega) (by omega) (by omega), if_true, tk_cv, tk_of pp], B2, fr2⟩
      · rw [if_neg c1] at p u5
        exact ⟨_, _, p, by simp only [↓reduceIte, m_Model_ofHut, cvm, ir', bind_some', n1, if_false, ih, tk, tk_10, u2, u4, u5, neq 10 0 (by omega) (by omega) (by omega), neq 10 1 (by omega) (by omega) (by omega), neq 10 2 (by omega) (by omega) (by omega), neq 10 3 (by omega) (by omega) (by omega), neq 10 4 (by omega) (by omega) (by omega), neq 10 5 (by omega) (by omega) (by omega), neq 10 6 (by omega) (by omega) (by omega), neq 10 7 (by omega) (by omega) (by omega), neq 10 8 (by omega) (by omega) (by omega), neq 10 9 (by omega) (by omega) (by omega), if_true, n0], B2, fr2⟩
end CALLS5
