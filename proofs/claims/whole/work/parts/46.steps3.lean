/-! STEPS FROM A ROW: THE MODEL -/
section SM
variable {n kd r wy : Nat} {nw : Nat → Int32 → Nat} {go : Nat → Int32 → Nat → Nat}
def RM4 (r wy n kd : Nat) (KP rW rS rA rB sA oA m : Nat → Int32) (s : rS4) (h : zH) : Prop := RMH r wy n kd KP rW rS rA rB sA oA m s.1 s.2.1 s.2.2.1 s.2.2.2 h
theorem m_steps_l {s l N iN : Nat} {Kf mf : Nat → Int32} {it el : Nat → Int64} (r4 : r < 4) (hkd : kd < 9) (hn : n ≤ 6) (hn0 : 0 < n) (l60 : l ≤ 60) (hi : iN < l) (hN : N ≤ 60) (hs : s < 6) (hw : wy < 10) (hkw : Kf wy = nI kd) (hgo : ∀ hh, hh < n → ∀ l i, i < nw hh l → go hh l i < 6) (hnw : ∀ hh, hh < n → ∀ l, nw hh l ≤ 270) (hel : ∀ k, k < 60 → el k = it (60 * s + k)) (hmf : mf s = nI l) : ∀ (d k f : Nat) (st : rS4) (KP rW rS rA rB sA oA m : Nat → Int32) (h : zH), N - k = d → k ≤ N → d + 1 < f → RM4 r wy n kd KP rW rS rA rB sA oA m st h → h 674 = zI32 10 Kf → m 4 = nI n → MU n nw go h → OK4 kd n st → st.2.1 + d ≤ 1000000 → h 690 = zI32 6 mf → h 691 = zI64 360 it → ∃ h' KP' rW' rS' rA' rB' sA' oA' m', zloop (g_Model_steps_74 670 (nI r) (nI s) (nI iN) (nI N)) f (nI k, nI 1, h) = some (nI (sq4 kd n nw go (cdF el iN l) d k st).1, h') ∧ RM4 r wy n kd KP' rW' rS' rA' rB' sA' oA' m' (sq4 kd n nw go (cdF el iN l) d k st).2 h' ∧ RSame r KP rW rS rA rB sA oA KP' rW' rS' rA' rB' sA' oA' ∧ (∀ j, j ≠ 8 ∧ j ≠ 9 ∧ j ≠ 10 ∧ j ≠ 11 → m' j = m j) ∧ ∀ k, k ≠ 670 → ¬ (675 ≤ k ∧ k < 683) → h' k = h k := by
  have n1 := nI1_0
  have n0 := nI0_0
  intro d
  induction d with
  | zero =>
    intro k f st KP rW rS rA rB sA oA m h hd hk hf M h674 m4 H O hc h690 h691
    obtain ⟨f, rfl⟩ : ∃ k, f = k + 1 := ⟨f - 1, by omega⟩
    have c : (N ≤ k) = True := eq_true (by omega)
    refine ⟨h, KP, rW, rS, rA, rB, sA, oA, m, ?_, M, RSame.rf, fun _ _ => rfl, fun _ _ _ => rfl⟩
    show g_Model_steps_74 670 (nI r) (nI s) (nI iN) (nI N) _ (nI k, nI 1, h) = some (nI k, h)
    simp (disch := omega) only [g_Model_steps_74, n1, if_false, nI_le_iff, c, if_true]
  | succ d ih =>
    intro k f st KP rW rS rA rB sA oA m h hd hk hf M h674 m4 H O hc h690 h691
    obtain ⟨f, rfl⟩ : ∃ k, f = k + 2 := ⟨f - 2, by omega⟩
    have c : (N ≤ k) = False := eq_false (by omega)
    have hm := M.2.1
    have r30 : zrR h 670 7 30 = some 690 := (MO_ref _ m hm).2.2.2.2.2.2.2.2.2.2.2.2.2.2.2.2.2.2.2.1
    have r31 : zrR h 670 7 31 = some 691 := (MO_ref _ m hm).2.2.2.2.2.2.2.2.2.2.2.2.2.2.2.2.2.2.2.2.1
    have l30 : zaI h 690 (nI s) = some (nI l) := by rw [zaI, zA32_of h690 hs (by omega), hmf]
    have ea : (nI iN).toInt64 + (nI k).toInt64 = lN (iN + k) := by rw [nI_l (by omega), nI_l (by omega), lN_add]
    have g0 : (lg_cmp (lN (iN + k)) 0 < 0) = False := eq_false (fun q => by
      have := (lg_cmp_lt (lN (iN + k)) (lN 0)).mp q
      have := (lN_lt (by omega) (by omega)).mp this
      omega)
    have gl : (0 ≤ lg_cmp (lN (iN + k)) (nI l).toInt64) = (l ≤ iN + k) := propext (by
      rw [nI_l (by omega)]
      exact (lg_cmp_ge _ _).trans (lN_le (by omega) (by omega)))
    have ei : (lN (iN + k)).toInt32 = nI (iN + k) := lN_i _
    have e60 : nI 60 * nI s = nI (60 * s) := pk_mul _ _
    have stop : ∀ (k' : Nat) (h' : zH), zloop (g_Model_steps_74 670 (nI r) (nI s) (nI iN) (nI N)) (f + 1) (nI k', nI 0, h') = some (nI k', h') := fun k' h' => by
      show g_Model_steps_74 670 (nI r) (nI s) (nI iN) (nI N) (zloop _ f) (nI k', nI 0, h') = _
      simp only [g_Model_steps_74, n0, if_true]
    show ∃ h' KP' rW' rS' rA' rB' sA' oA' m', g_Model_steps_74 670 (nI r) (nI s) (nI iN) (nI N) (zloop _ (f + 1)) (nI k, nI 1, h) = _ ∧ _
    unfold sq4
    by_cases pl : iN + k < l
    · have pl' : (l ≤ iN + k) = False := eq_false (by omega)
      have l31 : zaJ h 691 (nI (60 * s + (iN + k))) = some (el (iN + k)) := by rw [zaJ_of h691 (by omega) (by omega), hel _ (by omega)]
      by_cases ng : (el (iN + k)).toInt32 < 0
      · have ec : cdF el iN l k = none := by unfold cdF; rw [if_pos pl, if_pos ng]
        rw [ec]
        refine ⟨h, KP, rW, rS, rA, rB, sA, oA, m, ?_, M, RSame.rf, fun _ _ => rfl, fun _ _ _ => rfl⟩
        simp (disch := omega) only [g_Model_steps_74, n1, if_false, nI_le_iff, c, ea, g0, r30, bind_some', l30, gl, pl', g_Model_steps_119, r31, ei, e60, nI_add, l31, eq_true ng, if_true, g_Model_steps_179, n0, Nat.add_zero, stop]
      · obtain ⟨ev, v31⟩ := clN ng
        have ec : cdF el iN l k = some (el (iN + k)).toInt32.toNatClampNeg := by unfold cdF; rw [if_pos pl, if_neg ng]
        rw [ec]
        revert ng ev v31
        generalize (el (iN + k)).toInt32.toNatClampNeg = v
        intro ng ev v31
        obtain ⟨d1, d2⟩ := cod v31
        rw [← ev] at d1 d2
        dsimp only
        have cv := fun {α : Type} (o : Option α) => MO_cv h m hm o
        by_cases s5 : v / 100 < 5
        · have s4 : (4 < v / 100) = False := eq_false (by omega)
          obtain ⟨h1, KP', rS', rA', rB', sA', oA', m', fr1, em, E, D⟩ := m_adv (i := nI (v % 100)) (sort := v / 100) (Kf := Kf) r4 M h674 hw hkw m4 H hgo hnw O.2.1 O.2.2 hkd hn hn0 (by omega) s5 O.1
          rcases D with ⟨e, eb, MM⟩ | ⟨e, eb, MM⟩
          · rw [if_pos ⟨s5, e⟩]
            have gt : (nI (st.2.1 + 1) ≤ 0) = False := eq_false (nI_nle (by omega) (by omega))
            obtain ⟨h', KP2, rW2, rS2, rA2, rB2, sA2, oA2, m2, x1, x2, x3, x4, x5⟩ := ih (k + 1) (f + 1) (nx4 kd n nw go v st) KP' rW rS' rA' rB' sA' oA' m' h1 (by omega) (by omega) (by omega) MM (by rw [fr1 674 (by omega) (by omega)]; exact h674) (by rw [em 4 (by omega)]; exact m4) (H.fr (fr1 672 (by omega) (by omega)) (fr1 673 (by omega) (by omega))) (O.nx (by omega) hn hn0 hnw e) (show st.2.1 + 1 + d ≤ 1000000 by omega) (by rw [fr1 690 (by omega) (by omega)]; exact h690) (by rw [fr1 691 (by omega) (by omega)]; exact h691)
            refine ⟨h', KP2, rW2, rS2, rA2, rB2, sA2, oA2, m2, ?_, x2, E.tr x3, fun j q => (x4 j q).trans (em j q), fun k a b => (x5 k a b).trans (fr1 k a b)⟩
            rw [← x1]
            simp (disch := omega) only [g_Model_steps_74, n1, if_false, nI_le_iff, c, ea, g0, r30, bind_some', l30, gl, pl', g_Model_steps_119, r31, ei, e60, nI_add, l31, eq_false ng, d1, d2, nI_lt_iff, s4, cv, eb, zb2_some, gt, g_Model_steps_179]
          · rw [if_neg (fun q => by rw [q.2] at e; exact e.elim (fun w => n3ne w.symm) (fun w => n5ne w.symm))]
            have lt : ((aStep kd (fmo kd) n nw go (v / 100) (nI (v % 100)) st.1).1 ≤ 0) = True := by
              rcases e with e | e <;> rw [e] <;> exact eq_true (by decide)
            refine ⟨h1, KP', rW, rS', rA', rB', sA', oA', m', ?_, MM, E, em, fr1⟩
            simp (disch := omega) only [g_Model_steps_74, n1, if_false, nI_le_iff, c, ea, g0, r30, bind_some', l30, gl, pl', g_Model_steps_119, r31, ei, e60, nI_add, l31, eq_false ng, d1, d2, nI_lt_iff, s4, cv, eb, zb2_some, lt, if_true, g_Model_steps_179, n0, Nat.add_zero, stop]
        · rw [if_neg (fun q => s5 q.1)]
          have s4 : (4 < v / 100) = True := eq_true (by omega)
          refine ⟨h, KP, rW, rS, rA, rB, sA, oA, m, ?_, M, RSame.rf, fun _ _ => rfl, fun _ _ _ => rfl⟩
          have s4' : nI 4 < nI (v / 100) := (nI_ltI (by omega) (by omega)).mpr (by omega)
          simp (disch := omega) only [g_Model_steps_74, n1, if_false, nI_le_iff, c, ea, g0, r30, bind_some', l30, gl, pl', g_Model_steps_119, r31, ei, e60, nI_add, l31, eq_false ng, d1, eq_true s4', if_true, g_Model_steps_179, n0, Nat.add_zero, stop]
    · have pl' : (l ≤ iN + k) = True := eq_true (by omega)
      have ec : cdF el iN l k = none := by unfold cdF; rw [if_neg pl]
      rw [ec]
      refine ⟨h, KP, rW, rS, rA, rB, sA, oA, m, ?_, M, RSame.rf, fun _ _ => rfl, fun _ _ _ => rfl⟩
      simp (disch := omega) only [g_Model_steps_74, n1, if_false, nI_le_iff, c, ea, g0, r30, bind_some', l30, gl, pl', if_true, g_Model_steps_119, n0, stop]
end SM
section STEPS
variable {h : zH} {n tl w rb ran b : Nat} {X : Nat → Nat → Nat} {Le : Nat → Nat} {Kf : Nat → Int32}
theorem f_steps (B : BAS n X Le tl w rb ran Kf b h) (hb : b ≤ 900000) (x y i v : Int32) : ∃ r h1 h2, m_Home_steps 0 x y i v h = some (r, h1) ∧ m_Model_steps 670 x y i v h1 = some (r, h2) ∧ BAS n X Le tl w rb ran Kf (b + 60) h2 ∧ ∀ k, 21 ≤ k → k < 643 → h2 k = h k := by
  obtain ⟨⟨h0, m, hm, m1, m4, m6, m19, m27⟩, cT, cH, ⟨w10, k18, k674, kk⟩, cR, cS, cC, cA, cX⟩ := id B
  have n1 := nI1_0
  have n0 := nI0_0
  have zb := zN_big
  have r4 := cR.1
  have cvh := fun {α : Type} (o : Option α) => HO_cv h0 o
  have cvm := fun {α : Type} (o : Option α) => MO_cv h m hm o
  have ir := isRun_H h0 r4 x
  have ir' := isRun_M hm m19 r4 x
  have Bm : BAS n X Le tl w rb ran Kf (b + 60) h := ⟨⟨h0, m, hm, m1, m4, m6, m19, m27⟩, cT, cH, ⟨w10, k18, k674, kk⟩, cR.mono (Nat.le_refl _) (by omega) (fun _ _ => rfl), cS, cC, cA, cX⟩
  rcases ix_cases x rb (by omega) with ⟨z, -⟩ | ⟨r, hr, rfl, z⟩
  · rw [z, if_pos rfl] at ir ir'
    exact ⟨-1, h, h, by simp only [m_Home_steps, cvh, ir, bind_some', n0, if_true], by simp only [m_Model_steps, cvm, ir', bind_some', n0, if_true], Bm, fun _ _ _ => rfl⟩
  rw [z] at ir ir'
  have e0 : ((some r : Option Nat) = none) = False := by simp
  simp only [e0, if_false] at ir ir'
  have i1 := isShelf_ix y h
  have i2 := isShelf_M y h
  rcases ix_cases y 6 (by omega) with ⟨z2, -⟩ | ⟨s, hs, rfl, z2⟩
  · rw [z2, if_pos rfl] at i1 i2
    exact ⟨-1, h, h, by simp only [m_Home_steps, cvh, ir, bind_some', n1, if_false, i1, n0, if_true], by simp only [m_Model_steps, cvm, ir', bind_some', n1, if_false, i2, n0, if_true], Bm, fun _ _ _ => rfl⟩
  rw [z2] at i1 i2
  have e0s : ((some s : Option Nat) = none) = False := by simp
  simp only [e0s, if_false] at i1 i2
  have wi := M_wI h v (nI 1) (nI 60) (lo := 1) (hi := 60) (by decide) (by decide)
  by_cases v1 : v < nI 1
  · rw [if_pos v1] at wi
    exact ⟨-1, h, h, by simp only [m_Home_steps, cvh, ir, bind_some', n1, if_false, i1, eq_true v1, if_true], by simp only [m_Model_steps, cvm, ir', bind_some', n1, if_false, i2, wi, n0, if_true], Bm, fun _ _ _ => rfl⟩
  rw [if_neg v1] at wi
  by_cases v60 : nI 60 < v
  · rw [if_pos v60] at wi
    exact ⟨-1, h, h, by simp only [m_Home_steps, cvh, ir, bind_some', n1, if_false, i1, eq_false v1, eq_false (Int32.not_le.mpr v60)], by simp only [m_Model_steps, cvm, ir', bind_some', n1, if_false, i2, wi, n0, if_true], Bm, fun _ _ _ => rfl⟩
  rw [if_neg v60] at wi
  have v60' : (v ≤ nI 60) = True := eq_true (Int32.not_lt.mp v60)
  obtain ⟨N, hN, rfl⟩ := nI_of2 (M := nI 60) (n := 60) (by decide) (fun q => v1 (Int32.lt_trans q (by decide))) (Int32.not_lt.mp v60)
  obtain ⟨r11, rSh⟩ := cSh_at cX h0
  obtain ⟨⟨gS, q1, q2⟩, sf, mf, it, q3, q4, q5', q6', q7'⟩ := id cX
  obtain ⟨len, so, wyS, el, k1, k2, k3, k4⟩ := q7' s hs
  have cv := fun {α : Type} (o : Option α) => SHE_cv k2 o
  have em1 := sh_empty k2
  have em2 := sh_isRowOf k2 (nI 1)
  have f29 : zrR h 670 7 29 = some 689 := (MO_ref _ m hm).2.2.2.2.2.2.2.2.2.2.2.2.2.2.2.2.2.2.1
  have f30 : zrR h 670 7 30 = some 690 := (MO_ref _ m hm).2.2.2.2.2.2.2.2.2.2.2.2.2.2.2.2.2.2.2.1
  have l29 : zaI h 689 (nI s) = some (sf s) := zA32_of q3 hs (by omega)
  have l30 : zaI h 690 (nI s) = some (mf s) := zA32_of q4 hs (by omega)
  rcases k1 with ⟨a1, a2, a3, a4, a5⟩ | ⟨u, hu, a1, a2, a3, a4, a5⟩ | ⟨t, l, ht, hl, a1, a2, a3, a4, a5⟩
  · rw [if_pos ⟨a3, a2⟩] at em1
    have eq1 : (sf s = -1) = True := eq_true a4
    refine ⟨nI 0, h, h, by simp only [m_Home_steps, cvh, ir, bind_some', n1, if_false, i1, eq_false v1, v60', if_true, r11, rSh s hs, cv, em1], ?_, Bm, fun _ _ _ => rfl⟩
    obtain ⟨zk, hzk⟩ : ∃ k, zN = k + 1 := ⟨zN - 1, by omega⟩
    have lp : zloop (g_Model_steps_74 670 (nI r) (nI s) i (nI N)) zN (nI 0, nI 0, h) = some (nI 0, h) := by
      rw [hzk]
      show g_Model_steps_74 670 (nI r) (nI s) i (nI N) (zloop _ zk) (nI 0, nI 0, h) = _
      simp only [g_Model_steps_74, n0, if_true]
    simp only [m_Model_steps, cvm, ir', bind_some', n1, if_false, i2, wi, f29, l29, eq1, if_true, g_Model_steps_54, lp]
  · have cy : (wyS = -1) = False := by rw [a3]; exact nI_eqm1 (by omega)
    rw [if_neg (fun q => by rw [cy] at q; exact q.1)] at em1
    have cz : ¬ so = nI 1 := by rw [a2]; decide
    rw [if_neg cz] at em2
    have e1 : (sf s = -1) = False := by rw [a4]; exact nI_eqm1 (by omega)
    have e2 : (sf s = nI 11) = False := by rw [a4]; exact eq_false (fun q => by have := (nI_eq (by omega) (by omega)).mp q; omega)
    exact ⟨-12, h, h, by simp only [m_Home_steps, cvh, ir, bind_some', n1, if_false, i1, eq_false v1, v60', if_true, r11, rSh s hs, cv, em1, n0, em2], by simp only [m_Model_steps, cvm, ir', bind_some', n1, if_false, i2, wi, f29, l29, e1, e2], Bm, fun _ _ _ => rfl⟩
  · subst a1
    have cy : (so = -1) = False := by rw [a2]; exact nI_eqm1 (by omega)
    rw [if_neg (fun q => by rw [cy] at q; exact q.2)] at em1
    have e1 : (sf s = -1) = False := by rw [a4]; exact nI_eqm1 (by omega)
    by_cases t1 : t = 1
    · subst t1
      rw [if_pos a2] at em2
      have e2 : (sf s = nI 11) = True := by rw [a4]; simp
      -- a row of shorts
      obtain ⟨q5, r19⟩ := cRuns_at cR h0
      have n6 := cH.1
      have HUh := cH.HU
      have hgo : ∀ hh, hh < n → ∀ l i, i < nwF X Le hh l → goF X Le hh l i < 6 := fun hh q l i qi => hu_go HUh q qi
      have hnw : ∀ hh, hh < n → ∀ l, nwF X Le hh l ≤ 270 := fun hh q l => hu_nw HUh q l
      obtain ⟨wy, kd, c, g, KP, rW, rS, rA, rB, sA, oA, mm, b1, b2, b3, b4, C, M, V, o1, o2, r4', n0', mm4⟩ := BAS_at B hr
      rcases ix_cases i l (by omega) with ⟨y, yy⟩ | ⟨iN, hiN, rfl, y⟩
      · have pl := sh_place hl k2 i
        rw [y, if_pos rfl] at pl
        have N1 : ¬ N = 0 := fun q => by subst q; exact v1 (by decide)
        have cN : (N ≤ 0) = False := eq_false (by omega)
        obtain ⟨zk, hzk⟩ : ∃ k, zN = k + 2 := ⟨zN - 2, by omega⟩
        refine ⟨nI 0, h, h, ?_, ?_, Bm, fun _ _ _ => rfl⟩
        · have lp : zloop (g_Home_steps_63 0 (nI r) i (nI N) (658 + 2 * s)) zN (nI 0, h) = some (nI 0, h) := by
            rw [hzk]
            show g_Home_steps_63 0 (nI r) i (nI N) (658 + 2 * s) (zloop _ (zk + 1)) (nI 0, h) = _
            simp (disch := omega) only [g_Home_steps_63, nI_le_iff, cN, if_false, cv, pl, bind_some', n0, if_true]
          simp only [m_Home_steps, cvh, ir, bind_some', n1, if_false, i1, eq_false v1, v60', if_true, r11, rSh s hs, cv, em1, n0, em2, lp]
        · have stop : zloop (g_Model_steps_74 670 (nI r) (nI s) i (nI N)) (zk + 1) (nI 0, nI 0, h) = some (nI 0, h) := by
            show g_Model_steps_74 670 (nI r) (nI s) i (nI N) (zloop _ zk) (nI 0, nI 0, h) = _
            simp only [g_Model_steps_74, n0, if_true]
          have lp : zloop (g_Model_steps_74 670 (nI r) (nI s) i (nI N)) zN (nI 0, nI 1, h) = some (nI 0, h) := by
            rw [hzk]
            show g_Model_steps_74 670 (nI r) (nI s) i (nI N) (zloop _ (zk + 1)) (nI 0, nI 1, h) = _
            have z64 : (nI 0).toInt64 = 0 := by decide
            have iz : i.toInt64 + (nI 0).toInt64 = i.toInt64 := by rw [z64, Int64.add_zero]
            by_cases i0 : i < 0
            · have t0 : lg_cmp i.toInt64 0 < 0 := (lg_cmp_lt _ _).mpr (by
                rw [Int64.lt_iff_toInt_lt, Int32.toInt_toInt64]
                exact Int32.lt_iff_toInt_lt.mp i0)
              simp (disch := omega) only [g_Model_steps_74, n1, if_false, nI_le_iff, cN, iz, eq_true t0, if_true, g_Model_steps_119, n0, stop]
            · obtain ⟨j, hj, rfl⟩ := nI_of i0
              have hlj : l ≤ j := (nI_leI (by omega) hj).mp (yy.resolve_left i0)
              have t0 : (lg_cmp (nI j).toInt64 0 < 0) = False := eq_false (fun q => by
                rw [nI_l hj] at q
                have := (lg_cmp_lt (lN j) (lN 0)).mp q
                have := (lN_lt hj (by omega)).mp this
                omega)
              have t1 : (0 ≤ lg_cmp (nI j).toInt64 (nI l).toInt64) = True := eq_true (by
                rw [nI_l hj, nI_l (by omega)]
                exact (lg_cmp_ge _ _).mpr ((lN_le (by omega) hj).mpr hlj))
              simp (disch := omega) only [g_Model_steps_74, n1, if_false, nI_le_iff, cN, iz, t0, f30, bind_some', l30, a5, t1, if_true, g_Model_steps_119, n0, stop]
          simp only [m_Model_steps, cvm, ir', bind_some', n1, if_false, i2, wi, f29, l29, e1, e2, if_true, g_Model_steps_54, lp]
      · have O4 : OK4 kd n (g, c, sA r, oA r) := ⟨V, o1, o2⟩
        obtain ⟨h1, x1, x2, x3, x4⟩ := c_steps_l (nw := nwF X Le) (go := goF X Le) (wy := wy) (iN := iN) (N := N) r4' b2 n0' hl hiN hN hs N 0 zN (g, c, sA r, oA r) h (by omega) (by omega) (by omega) C cS HUh O4 (by show c + N ≤ 1000000; omega) h0 cR.2.2.1 k2 k3
        have M1 : RM4 r wy n kd KP rW rS rA rB sA oA mm (g, c, sA r, oA r) h1 := RMH.fr M fun k q => x4 k (by omega) (by omega) (by omega)
        obtain ⟨h2, KP', rW', rS', rA', rB', sA', oA', m', y1, y2, y3, y4, y5⟩ := m_steps_l (nw := nwF X Le) (go := goF X Le) (s := s) (iN := iN) (N := N) (el := el) r4' b2 n6 n0' hl hiN hN hs (by omega) b3 hgo hnw k4 a5 N 0 zN (g, c, sA r, oA r) KP rW rS rA rB sA oA mm h1 (by omega) (by omega) (by omega) M1 (by rw [x4 674 (by omega) (by omega) (by omega)]; exact k674) mm4 (cH.MU.fr (x4 672 (by omega) (by omega) (by omega)) (x4 673 (by omega) (by omega) (by omega))) O4 (by show c + N ≤ 1000000; omega) (by rw [x4 690 (by omega) (by omega) (by omega)]; exact q4) (by rw [x4 691 (by omega) (by omega) (by omega)]; exact q5')
        obtain ⟨ok1, ok2⟩ := sq4_ok (cd := cdF el iN l) (nw := nwF X Le) (go := goF X Le) n6 n0' hnw N 0 (g, c, sA r, oA r) O4 (by show c + N ≤ 1000000; omega)
        have hm1 : h1 670 = MO mm := M1.2.1
        have mm19 : mm 19 = nI rb := by
          have x := MO_rd h mm (j := 19) (by unfold mosc; omega) M.2.1
          have y := MO_rd h m (j := 19) (by unfold mosc; omega) hm
          rw [x] at y
          exact (Option.some.inj y).trans m19
        have ir2 := isRun_M hm1 mm19 r4 (nI r)
        rw [z] at ir2
        simp only [e0, if_false] at ir2
        have i22 := isShelf_M (nI s) h1
        rw [z2] at i22
        simp only [e0s, if_false] at i22
        have wi1 := M_wI h1 (nI N) (nI 1) (nI 60) (lo := 1) (hi := 60) (by decide) (by decide)
        rw [if_neg v1, if_neg v60] at wi1
        have g29 : zrR h1 670 7 29 = some 689 := (MO_ref _ mm hm1).2.2.2.2.2.2.2.2.2.2.2.2.2.2.2.2.2.2.1
        have gl29 : zaI h1 689 (nI s) = some (sf s) := zA32_of (by rw [x4 689 (by omega) (by omega) (by omega)]; exact q3) hs (by omega)
        have q : ∀ k, k ≠ 20 → k ≠ 646 + 3 * r → k ≠ 647 + 3 * r → k ≠ 670 → ¬ (675 ≤ k ∧ k < 683) → h2 k = h k := fun k a b c d e => by rw [y5 k d e, x4 k a b c]
        have S2 : cSp h2 := x3.fr fun k y => by subst y; exact y5 20 (by omega) (by omega)
        have ok2' : (sq4 kd n (nwF X Le) (goF X Le) (cdF el iN l) N 0 (g, c, sA r, oA r)).2.2.1 ≤ c + N := ok2
        refine ⟨nI (sq4 kd n (nwF X Le) (goF X Le) (cdF el iN l) N 0 (g, c, sA r, oA r)).1, h1, h2, ?_, ?_, BAS_run B hr (by omega) M.1 M.2.1 b1 b2 b3 (by omega) (RC.fr x2 fun k y => y5 k (by omega) (by omega)) S2 y2 y3 ok1.1 ok1.2.1 ok1.2.2 y4 q⟩
        · exact Eq.trans (by simp only [m_Home_steps, cvh, ir, bind_some', n1, if_false, i1, eq_false v1, v60', if_true, r11, rSh s hs, cv, em1, n0, em2]) x1
        · exact Eq.trans (by simp only [m_Model_steps, MO_cv h1 mm hm1, ir2, bind_some', n1, if_false, i22, wi1, g29, gl29, e1, e2, if_true, g_Model_steps_54]) y1
    · have cz : ¬ so = nI 1 := by rw [a2]; exact fun q => t1 ((nI_eq (by omega) (by omega)).mp q)
      rw [if_neg cz] at em2
      have e2 : (sf s = nI 11) = False := by rw [a4]; exact eq_false (fun q => by have := (nI_eq (by omega) (by omega)).mp q; omega)
      exact ⟨-12, h, h, by simp only [m_Home_steps, cvh, ir, bind_some', n1, if_false, i1, eq_false v1, v60', if_true, r11, rSh s hs, cv, em1, n0, em2], by simp only [m_Model_steps, cvm, ir', bind_some', n1, if_false, i2, wi, f29, l29, e1, e2], Bm, fun _ _ _ => rfl⟩
end STEPS
