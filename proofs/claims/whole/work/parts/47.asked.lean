/-! WHAT IS ASKED OF RUNS -/
def aw (g : Nat → Int32) : Nat → Int32
  | 0 => nI 0
  | k + 1 => aw g k + g k
theorem aw_stay {g : Nat → Int32} {n : Nat} (hz : ∀ hh, n ≤ hh → hh < 6 → g hh = 0) : ∀ k, n + k ≤ 6 → aw g (n + k) = aw g n := by
  intro k
  induction k with
  | zero => intro _; rfl
  | succ k ih =>
    intro hk
    show aw g (n + k) + g (n + k) = aw g n
    rw [hz (n + k) (by omega) (by omega), Int32.add_zero]
    exact ih (by omega)
section ASK
variable {h : zH} {n r wy kd c : Nat} {g : Nat → Int32} {sa oa : Int32}
theorem s_awake (C : RC r wy kd g c sa oa h) : ∀ (d j f : Nat), 6 - j = d → j ≤ 6 → d < f → zloop (g_Run_hutsAwake_4 (646 + 3 * r) h) f (aw g j, nI j) = some (aw g 6) := by
  have r1 := (RunE_rd C.1).2.2.1
  intro d
  induction d with
  | zero =>
    intro j f hd hj hf
    obtain ⟨f, rfl⟩ : ∃ k, f = k + 1 := ⟨f - 1, by omega⟩
    obtain rfl : j = 6 := by omega
    have c : (6 ≤ 6) = True := eq_true (Nat.le_refl _)
    show g_Run_hutsAwake_4 (646 + 3 * r) h _ (aw g 6, nI 6) = _
    simp (disch := omega) only [g_Run_hutsAwake_4, nI_le_iff, c, if_true]
  | succ d ih =>
    intro j f hd hj hf
    obtain ⟨f, rfl⟩ : ∃ k, f = k + 1 := ⟨f - 1, by omega⟩
    have c : (6 ≤ j) = False := eq_false (by omega)
    have l1 : zaI h (647 + 3 * r) (nI j) = some (g j) := zA32_of C.2.1 (by omega) (by omega)
    rw [← ih (j + 1) f (by omega) (by omega) (by omega)]
    show g_Run_hutsAwake_4 (646 + 3 * r) h (zloop _ f) (aw g j, nI j) = _
    simp (disch := omega) only [g_Run_hutsAwake_4, nI_le_iff, c, if_false, r1, bind_some', nI_add, Nat.zero_add, l1]
    rfl
/-- the model's heap when it has taken a run -/
def tkH (h : zH) (n kd : Nat) (KP rW rS rA rB sA oA m g : Nat → Int32) : zH := mR h KP rW rS rA rB sA oA (ms m kd (m 11) 0 0 g) (ph (fmo kd) n g)
theorem m_take {Kf KP rW rS rA rB sA oA m : Nat → Int32} (r4 : r < 4) (M : RMH r wy n kd KP rW rS rA rB sA oA m g c sa oa h) (h674 : h 674 = zI32 10 Kf) (hw : wy < 10) (hkw : Kf wy = nI kd) : m_Model_takeRun 670 (nI r) h = some (tkH h n kd KP rW rS rA rB sA oA m g) ∧ RMH r wy n kd KP rW rS rA rB sA oA (ms m kd (m 11) 0 0 g) g c sa oa (tkH h n kd KP rW rS rA rB sA oA m g) ∧ ∀ k, k ≠ 670 → ¬ (675 ≤ k ∧ k < 683) → tkH h n kd KP rW rS rA rB sA oA m g k = h k := by
  obtain ⟨A, hm, ⟨rr, h675, hrr⟩, w1, w2, w3, w4, w5, w6, w7⟩ := M
  have tk := M_takeRun (m := m) (r := rr) (rS := rS) (sA := sA) (oA := oA) r4 h674 hw hkw w1 w7 w3 w4 hrr
  rw [mR_self A hm h675] at tk
  exact ⟨tk, ⟨mR_RA, mR_670, ⟨_, mR_675, fun k hk => ph_hi hk⟩, w1, w2, w3, w4, w5, w6, w7⟩, fun k a b => mR_o (by omega)⟩
section TKH
variable {KP rW rS rA rB sA oA m : Nat → Int32}
theorem tk_ld {j cc : Nat} (hc : pm (fmo kd) n j = some cc) : zaI (tkH h n kd KP rW rS rA rB sA oA m g) 675 (nI j) = some (g cc) := M_ld (h := wRA h KP rW rS rA rB sA oA) (m := m) (fm := fmo kd) (n := n) (kd := kd) (fu := m 11) (d1 := 0) (d2 := 0) hc
theorem tk_of {hh k cc : Nat} (hc : pm (fmo kd) n (6 * hh + k) = some cc) : m_Model_of 670 (nI hh) (nI k) (tkH h n kd KP rW rS rA rB sA oA m g) = some (g cc) := M_of (h := wRA h KP rW rS rA rB sA oA) (m := m) (fm := fmo kd) (n := n) (kd := kd) (fu := m 11) (d1 := 0) (d2 := 0) hc
theorem tk_cv {α : Type} (o : Option α) : zcv (tkH h n kd KP rW rS rA rB sA oA m g) 670 7 o = o := mR_cv o
theorem tk_now : zrR (tkH h n kd KP rW rS rA rB sA oA m g) 670 7 7 = some 675 := mR_now
theorem tk_words : m_Model_words 670 (tkH h n kd KP rW rS rA rB sA oA m g) = some (g 18) := M_words (h := wRA h KP rW rS rA rB sA oA) (m := m) (fm := fmo kd) (n := n) (kd := kd) (fu := m 11) (d1 := 0) (d2 := 0)
theorem tk_notes : m_Model_notes 670 (tkH h n kd KP rW rS rA rB sA oA m g) = some (g 43) := M_notes (h := wRA h KP rW rS rA rB sA oA) (m := m) (fm := fmo kd) (n := n) (kd := kd) (fu := m 11) (d1 := 0) (d2 := 0)
theorem tk_8 : zrI (tkH h n kd KP rW rS rA rB sA oA m g) 670 7 8 = some (g 121) := by
  have := M_8 (h := wRA h KP rW rS rA rB sA oA) (m := m) (fm := fmo kd) (n := n) (kd := kd) (fu := m 11) (d1 := 0) (d2 := 0) (g := g)
  rw [Int32.add_zero] at this
  exact this
theorem tk_9 : zrI (tkH h n kd KP rW rS rA rB sA oA m g) 670 7 9 = some (g 122) := by
  have := M_9 (h := wRA h KP rW rS rA rB sA oA) (m := m) (fm := fmo kd) (n := n) (kd := kd) (fu := m 11) (d1 := 0) (d2 := 0) (g := g)
  rw [Int32.add_zero] at this
  exact this
theorem tk_10 : zrI (tkH h n kd KP rW rS rA rB sA oA m g) 670 7 10 = some (nI kd) := M_10 (h := wRA h KP rW rS rA rB sA oA) (m := m) (fm := fmo kd) (n := n) (kd := kd) (fu := m 11) (d1 := 0) (d2 := 0)
theorem tk_over (hn : n ≤ 6) (h4 : m 4 = nI n) (hb : ∀ hh, n ≤ hh → hh < 6 → g hh = 0) : m_Model_isOver 670 (tkH h n kd KP rW rS rA rB sA oA m g) = some (ovN g) := M_isOver (h := wRA h KP rW rS rA rB sA oA) (m := m) (fm := fmo kd) (n := n) (kd := kd) (fu := m 11) (d1 := 0) (d2 := 0) hn h4 hb
theorem tk_4 (h4 : m 4 = nI n) : zrI (tkH h n kd KP rW rS rA rB sA oA m g) 670 7 4 = some (nI n) := M_4 (h := wRA h KP rW rS rA rB sA oA) (m := m) (fm := fmo kd) (n := n) (kd := kd) (fu := m 11) (d1 := 0) (d2 := 0) h4
end TKH
theorem RC_cell (C : RC r wy kd g c sa oa h) {x : Nat} (hx : x < 123) : m_Run_cell (646 + 3 * r) (nI x) h = some (g x) := by
  have r1 := (RunE_rd C.1).2.2.1
  have l1 : zaI h (647 + 3 * r) (nI x) = some (g x) := zA32_of C.2.1 hx (by omega)
  have cx : (123 ≤ x) = False := eq_false (by omega)
  simp (disch := omega) only [m_Run_cell, nI_lt0, if_false, nI_le_iff, cx, r1, bind_some', l1]
theorem RC_fam (C : RC r wy kd g c sa oa h) : m_Run_family (646 + 3 * r) h = some (nI (fmo kd)) := by
  have r0 := (RunE_rd C.1).2.1
  have cv : ∀ (o : Option Int32), zcv h (648 + 3 * r) 3 o = o := fun o => zcv_of (zcls_of C.2.2)
  have r2 : zrI h (648 + 3 * r) 3 2 = some (nI (fmo kd)) := zrI_of C.2.2 rfl
  simp only [m_Run_family, r0, bind_some', cv, m_Rules_family, r2]
theorem M_aw {n : Nat} {KP rW rS rA rB sA oA m : Nat → Int32} (hn : n ≤ 6) (h4 : m 4 = nI n) (x1 x2 : Int32) (R : Option (Int32 × zH)) (hR : ∀ K, g_Model_ofRun_20 670 x1 x2 (tkH h n kd KP rW rS rA rB sA oA m g) K (aw g n, nI n) = R) : ∀ (d j f : Nat), n - j = d → j ≤ n → d < f → zloop (g_Model_ofRun_20 670 x1 x2 (tkH h n kd KP rW rS rA rB sA oA m g)) f (aw g j, nI j) = R := by
  intro d
  induction d with
  | zero =>
    intro j f hd hj hf
    obtain ⟨f, rfl⟩ : ∃ k, f = k + 1 := ⟨f - 1, by omega⟩
    obtain rfl : j = n := by omega
    exact hR _
  | succ d ih =>
    intro j f hd hj hf
    obtain ⟨f, rfl⟩ : ∃ k, f = k + 1 := ⟨f - 1, by omega⟩
    have c : (n ≤ j) = False := eq_false (by omega)
    have p0 : pm (fmo kd) n (6 * j + 0) = some j := pm0 (by omega)
    rw [← ih (j + 1) f (by omega) (by omega) (by omega)]
    show g_Model_ofRun_20 670 x1 x2 _ (zloop _ f) (aw g j, nI j) = _
    unfold g_Model_ofRun_20
    dsimp only
    rw [tk_4 h4, bind_some', if_neg (by rw [nI_le_iff (by omega) (by omega)]; omega), tk_cv]
    have o0 := tk_of (h := h) (kd := kd) (KP := KP) (rW := rW) (rS := rS) (rA := rA) (rB := rB) (sA := sA) (oA := oA) (m := m) (g := g) p0
    rw [o0, bind_some', nI_add]
    rfl
end ASK
section CALLS4
variable {h : zH} {n tl w rb ran b : Nat} {X : Nat → Nat → Nat} {Le : Nat → Nat} {Kf : Nat → Int32}
/-- a run is taken: the world stays -/
theorem BAS_take {r wy kd c : Nat} {g KP rW rS rA rB sA oA m : Nat → Int32} (B : BAS n X Le tl w rb ran Kf b h) (hr : r < rb) (a1 : wy < w) (a2 : kd < 9) (a3 : Kf wy = nI kd) (a4 : c ≤ b) (C : RC r wy kd g c (sA r) (oA r) h) (M : RMH r wy n kd KP rW rS rA rB sA oA m g c (sA r) (oA r) h) (V : IV (fmo kd) n c 0 g) (o1 : okT (sA r)) (o2 : okT (oA r)) (w10 : w ≤ 10) (h674 : h 674 = zI32 10 Kf) (r4 : r < 4) : m_Model_takeRun 670 (nI r) h = some (tkH h n kd KP rW rS rA rB sA oA m g) ∧ BAS n X Le tl w rb ran Kf b (tkH h n kd KP rW rS rA rB sA oA m g) ∧ ∀ k, 21 ≤ k → k < 643 → tkH h n kd KP rW rS rA rB sA oA m g k = h k := by
  obtain ⟨e, M2, fr⟩ := m_take r4 M h674 (by omega) a3
  refine ⟨e, BAS_run B hr (Nat.le_refl _) M.1 M.2.1 a1 a2 a3 a4 (C.fr fun k y => fr k (by omega) (by omega)) (B.2.2.2.2.2.1.fr fun k y => by subst y; exact fr 20 (by omega) (by omega)) M2 RSame.rf V o1 o2 (fun j q => ms_far q) fun k _ _ _ d e => fr k d e⟩
theorem f_ofRun (B : BAS n X Le tl w rb ran Kf b h) (x y : Int32) : ∃ r h2, m_Home_ofRun 0 x y h = some r ∧ m_Model_ofRun 670 x y h = some (r, h2) ∧ BAS n X Le tl w rb ran Kf b h2 ∧ ∀ k, 21 ≤ k → k < 643 → h2 k = h k := by
  obtain ⟨⟨h0, m, hm, m1, m4, m6, m19, m27⟩, cT, cH, ⟨w10, k18, k674, kk⟩, cR, cS, cC, cA, cX⟩ := id B
  have n1 := nI1_0
  have n0 := nI0_0
  have zb := zN_big
  have r4 := cR.1
  have cvh := fun {α : Type} (o : Option α) => HO_cv h0 o
  have cvm := fun {α : Type} (o : Option α) => MO_cv h m hm o
  have ir := isRun_H h0 r4 x
  have ir' := isRun_M hm m19 r4 x
  rcases ix_cases x rb (by omega) with ⟨z, -⟩ | ⟨r, hr, rfl, z⟩
  · rw [z, if_pos rfl] at ir ir'
    exact ⟨-1, h, by simp only [m_Home_ofRun, cvh, ir, bind_some', n0, if_true], by simp only [m_Model_ofRun, cvm, ir', bind_some', n0, if_true], B, fun _ _ _ => rfl⟩
  rw [z] at ir ir'
  have e0 : ((some r : Option Nat) = none) = False := by simp
  simp only [e0, if_false] at ir ir'
  obtain ⟨q5, r19⟩ := cRuns_at cR h0
  have n6 := cH.1
  obtain ⟨wy, kd, c, g, KP, rW, rS, rA, rB, sA, oA, mm, a1, a2, a3, a4, C, M, V, o1, o2, r4', n0', mm4⟩ := BAS_at B hr
  obtain ⟨tk, B2, fr2⟩ := BAS_take B hr a1 a2 a3 a4 C M V o1 o2 w10 k674 r4'
  have cvr : ∀ {α : Type} (o : Option α), zcv h (646 + 3 * r) 4 o = o := fun o => zcv_of (zcls_of C.1)
  obtain ⟨-, -, s1, s2, s3, s4, s5, -⟩ := RunE_rd C.1
  have hb := V.2.2.1.2.1
  have hbb := V.2.2.1.1
  have ov1 := s_isOver C.2.1 hbb
  have ov2 := tk_over (h := h) (kd := kd) (KP := KP) (rW := rW) (rS := rS) (rA := rA) (rB := rB) (sA := sA) (oA := oA) (m := mm) n6 mm4 hb
  have sl : ∀ j, j < 123 → zaI h (647 + 3 * r) (nI j) = some (g j) := fun j hj => zA32_of C.2.1 hj (by omega)
  obtain ⟨w1, w2, w3, w4, w5, w6, w7⟩ := M.2.2.2
  have l2 : zaI (tkH h n kd KP rW rS rA rB sA oA mm g) 677 (nI r) = some (nI wy) := by rw [← w1]; exact mR_l2 r4'
  have l3 : zaI (tkH h n kd KP rW rS rA rB sA oA mm g) 678 (nI r) = some (nI c) := by rw [← w2]; exact mR_l3 r4'
  have l6 : zaI (tkH h n kd KP rW rS rA rB sA oA mm g) 681 (nI r) = some (sA r) := mR_l6 r4'
  have l7 : zaI (tkH h n kd KP rW rS rA rB sA oA mm g) 682 (nI r) = some (oA r) := mR_l7 r4'
  have rfs : zrR (tkH h n kd KP rW rS rA rB sA oA mm g) 670 7 12 = some 676 ∧ zrR (tkH h n kd KP rW rS rA rB sA oA mm g) 670 7 13 = some 677 ∧ zrR (tkH h n kd KP rW rS rA rB sA oA mm g) 670 7 14 = some 678 ∧ zrR (tkH h n kd KP rW rS rA rB sA oA mm g) 670 7 15 = some 679 ∧ zrR (tkH h n kd KP rW rS rA rB sA oA mm g) 670 7 16 = some 680 ∧ zrR (tkH h n kd KP rW rS rA rB sA oA mm g) 670 7 17 = some 681 ∧ zrR (tkH h n kd KP rW rS rA rB sA oA mm g) 670 7 18 = some 682 := mR_rf
  have l87 : zaI (tkH h n kd KP rW rS rA rB sA oA mm g) 675 (nI 87) = some (g 120) := tk_ld pm_c.2.2.2.1
  have awE : aw g 6 = aw g n := by
    have := aw_stay (g := g) (n := n) hb (6 - n) (by omega)
    rw [← this]
    exact congrArg (aw g) (by omega)
  have sAw : m_Run_hutsAwake (646 + 3 * r) h = some (aw g n) := by
    rw [← awE]
    exact s_awake C 6 0 zN rfl (by omega) (by omega)
  have cN : (n ≤ n) = True := eq_true (Nat.le_refl _)
  have fin : ∀ R, (∀ K, g_Model_ofRun_20 670 (nI r) y (tkH h n kd KP rW rS rA rB sA oA mm g) K (aw g n, nI n) = some (R, tkH h n kd KP rW rS rA rB sA oA mm g)) → m_Model_ofRun 670 (nI r) y h = some (R, tkH h n kd KP rW rS rA rB sA oA mm g) := fun R hR => by
    have lp := M_aw (h := h) (kd := kd) (g := g) (KP := KP) (rW := rW) (rS := rS) (rA := rA) (rB := rB) (sA := sA) (oA := oA) (m := mm) n6 mm4 (nI r) y _ hR n 0 zN rfl (by omega) (by omega)
    have lp : zloop (g_Model_ofRun_20 670 (nI r) y (tkH h n kd KP rW rS rA rB sA oA mm g)) zN (nI 0, nI 0) = some (R, tkH h n kd KP rW rS rA rB sA oA mm g) := lp
    simp only [m_Model_ofRun, cvm, ir', bind_some', n1, if_false, tk, lp]
  have pre : ∀ R, m_Run_tell (646 + 3 * r) y h = some R → m_Home_ofRun 0 (nI r) y h = some R := fun R hR => by
    simp only [m_Home_ofRun, cvh, ir, bind_some', n1, if_false, q5, r19 r r4', cvr, hR]
  by_cases c0 : y = nI 0
  · exact ⟨nI wy, _, pre _ (by simp only [m_Run_tell, eq_true c0, if_true, s2, bind_some']), fin _ (fun K => by simp (disch := omega) only [↓reduceIte, g_Model_ofRun_20, tk_4 mm4, bind_some', nI_le_iff, cN, if_true, eq_true c0, rfs, l2]), B2, fr2⟩
  by_cases c1 : y = nI 1
  · exact ⟨nI c, _, pre _ (by simp only [m_Run_tell, eq_false c0, if_false, eq_true c1, if_true, s3, bind_some']), fin _ (fun K => by simp (disch := omega) only [↓reduceIte, g_Model_ofRun_20, tk_4 mm4, bind_some', nI_le_iff, cN, if_true, eq_false c0, if_false, eq_true c1, rfs, l3]), B2, fr2⟩
  by_cases c2 : y = nI 2
  · exact ⟨g 18, _, pre _ (by simp only [m_Run_tell, eq_false c0, if_false, eq_false c1, eq_true c2, if_true, s1, bind_some', sl 18 (by omega)]), fin _ (fun K => by simp (disch := omega) only [↓reduceIte, g_Model_ofRun_20, tk_4 mm4, bind_some', nI_le_iff, cN, if_true, eq_false c0, if_false, eq_false c1, eq_true c2, tk_cv, tk_words]), B2, fr2⟩
  by_cases c3 : y = nI 3
  · exact ⟨g 43, _, pre _ (by simp only [m_Run_tell, eq_false c0, if_false, eq_false c1, eq_false c2, eq_true c3, if_true, s1, bind_some', sl 43 (by omega)]), fin _ (fun K => by simp (disch := omega) only [↓reduceIte, g_Model_ofRun_20, tk_4 mm4, bind_some', nI_le_iff, cN, if_true, eq_false c0, if_false, eq_false c1, eq_false c2, eq_true c3, tk_cv, tk_notes]), B2, fr2⟩
  by_cases c4 : y = nI 4
  · by_cases o : ovr g
    · rw [ovN_1 o] at ov1 ov2
      exact ⟨nI 1, _, pre _ (by simp only [m_Run_tell, eq_false c0, if_false, eq_false c1, eq_false c2, eq_false c3, eq_true c4, if_true, s1, bind_some', ov1, n1]), fin _ (fun K => by simp (disch := omega) only [↓reduceIte, g_Model_ofRun_20, tk_4 mm4, bind_some', nI_le_iff, cN, if_true, eq_false c0, if_false, eq_false c1, eq_false c2, eq_false c3, eq_true c4, tk_cv, ov2, n1]), B2, fr2⟩
    · rw [ovN_0 o] at ov1 ov2
      exact ⟨nI 0, _, pre _ (by simp only [m_Run_tell, eq_false c0, if_false, eq_false c1, eq_false c2, eq_false c3, eq_true c4, if_true, s1, bind_some', ov1, n0]), fin _ (fun K => by simp (disch := omega) only [↓reduceIte, g_Model_ofRun_20, tk_4 mm4, bind_some', nI_le_iff, cN, if_true, eq_false c0, if_false, eq_false c1, eq_false c2, eq_false c3, eq_true c4, tk_cv, ov2, n0]), B2, fr2⟩
  by_cases c5 : y = nI 5
  · exact ⟨g 120, _, pre _ (by simp only [m_Run_tell, eq_false c0, if_false, eq_false c1, eq_false c2, eq_false c3, eq_false c4, eq_true c5, if_true, s1, bind_some', sl 120 (by omega)]), fin _ (fun K => by simp (disch := omega) only [↓reduceIte, g_Model_ofRun_20, tk_4 mm4, bind_some', nI_le_iff, cN, if_true, eq_false c0, if_false, eq_false c1, eq_false c2, eq_false c3, eq_false c4, eq_true c5, tk_now, l87]), B2, fr2⟩
  by_cases c6 : y = nI 6
  · exact ⟨aw g n, _, pre _ (by simp only [m_Run_tell, eq_false c0, if_false, eq_false c1, eq_false c2, eq_false c3, eq_false c4, eq_false c5, eq_true c6, if_true, cvr, sAw, bind_some']), fin _ (fun K => by simp (disch := omega) only [↓reduceIte, g_Model_ofRun_20, tk_4 mm4, bind_some', nI_le_iff, cN, if_true, eq_false c0, if_false, eq_false c1, eq_false c2, eq_false c3, eq_false c4, eq_false c5, eq_true c6]), B2, fr2⟩
  by_cases c7 : y = nI 7
  · exact ⟨g 121, _, pre _ (by simp only [m_Run_tell, eq_false c0, if_false, eq_false c1, eq_false c2, eq_false c3, eq_false c4, eq_false c5, eq_false c6, eq_true c7, if_true, s1, bind_some', sl 121 (by omega)]), fin _ (fun K => by simp (disch := omega) only [↓reduceIte, g_Model_ofRun_20, tk_4 mm4, bind_some', nI_le_iff, cN, if_true, eq_false c0, if_false, eq_false c1, eq_false c2, eq_false c3, eq_false c4, eq_false c5, eq_false c6, eq_true c7, tk_8]), B2, fr2⟩
  by_cases c8 : y = nI 8
  · exact ⟨g 122, _, pre _ (by simp only [m_Run_tell, eq_false c0, if_false, eq_false c1, eq_false c2, eq_false c3, eq_false c4, eq_false c5, eq_false c6, eq_false c7, eq_true c8, if_true, s1, bind_some', sl 122 (by omega)]), fin _ (fun K => by simp (disch := omega) only [↓reduceIte, g_Model_ofRun_20, tk_4 mm4, bind_some', nI_le_iff, cN, if_true, eq_false c0, if_false, eq_false c1, eq_false c2, eq_false c3, eq_false c4, eq_false c5, eq_false c6, eq_false c7, eq_true c8, tk_9]), B2, fr2⟩
  by_cases c9 : y = nI 9
  · exact ⟨sA r, _, pre _ (by simp only [m_Run_tell, eq_false c0, if_false, eq_false c1, eq_false c2, eq_false c3, eq_false c4, eq_false c5, eq_false c6, eq_false c7, eq_false c8, eq_true c9, if_true, s4, bind_some']), fin _ (fun K => by simp (disch := omega) only [↓reduceIte, g_Model_ofRun_20, tk_4 mm4, bind_some', nI_le_iff, cN, if_true, eq_false c0, if_false, eq_false c1, eq_false c2, eq_false c3, eq_false c4, eq_false c5, eq_false c6, eq_false c7, eq_false c8, eq_true c9, rfs, l6]), B2, fr2⟩
  by_cases c10 : y = nI 10
  · exact ⟨oA r, _, pre _ (by simp only [m_Run_tell, eq_false c0, if_false, eq_false c1, eq_false c2, eq_false c3, eq_false c4, eq_false c5, eq_false c6, eq_false c7, eq_false c8, eq_false c9, eq_true c10, if_true, s5, bind_some']), fin _ (fun K => by simp (disch := omega) only [↓reduceIte, g_Model_ofRun_20, tk_4 mm4, bind_some', nI_le_iff, cN, if_true, eq_false c0, if_false, eq_false c1, eq_false c2, eq_false c3, eq_false c4, eq_false c5, eq_false c6, eq_false c7, eq_false c8, eq_false c9, eq_true c10, rfs, l7]), B2, fr2⟩
  · exact ⟨-1, _, pre _ (by simp only [m_Run_tell, eq_false c0, if_false, eq_false c1, eq_false c2, eq_false c3, eq_false c4, eq_false c5, eq_false c6, eq_false c7, eq_false c8, eq_false c9, eq_false c10]), fin _ (fun K => by simp (disch := omega) only [↓reduceIte, g_Model_ofRun_20, tk_4 mm4, bind_some', nI_le_iff, cN, if_true, eq_false c0, if_false, eq_false c1, eq_false c2, eq_false c3, eq_false c4, eq_false c5, eq_false c6, eq_false c7, eq_false c8, eq_false c9, eq_false c10]), B2, fr2⟩
end CALLS4
