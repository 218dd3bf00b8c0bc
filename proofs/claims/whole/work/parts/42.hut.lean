/-! LINES, GOALS, A NEW HUT -/
theorem i32_m1 {l : Int32} (a : ¬ l < -1) (b : l < 0) : l = -1 := by
  have a' : ¬ l.toInt < (-1 : Int32).toInt := fun q => a (Int32.lt_iff_toInt_lt.mpr q)
  have b' : l.toInt < (0 : Int32).toInt := Int32.lt_iff_toInt_lt.mp b
  have e1 : (-1 : Int32).toInt = -1 := by decide
  have e0 : (0 : Int32).toInt = 0 := by decide
  refine Int32.toInt_inj.mp ?_
  omega
section MIB
variable {h : zH} {T : Nat → Nat}
theorem M_inL_b {hh len own : Nat} {m Tx Tm : Nat → Int32} (hm : h 670 = MO m) (h2 : h 672 = zI32 360 Tx) (h3 : h 673 = zI32 6 Tm) (q6 : hh < 6) (hl : len ≤ 60) (eL : Tm hh = nI len) (eX : ∀ k, k < len → Tx (60 * hh + k) = nI (T k)) (t256 : ∀ k, k < len → T k < 256) (l : Int32) {i : Int32} (hi : nI 1000 ≤ i) (hv : ∀ j, j < len → okc T own j) : ∀ (d k f : Nat), len - k = d → k ≤ len → d < f → zloop (g_Model_inLine_15 670 (nI hh) l i h) f (nI (LN T k), nI (WC T l k), nI (ML T k), nI k) = some (-1) := by
  have r2 : zrR h 670 7 2 = some 672 := (MO_ref h m hm).2.1
  have r3 : zrR h 670 7 3 = some 673 := (MO_ref h m hm).2.2.1
  have l3 : zaI h 673 (nI hh) = some (nI len) := by rw [zaI, zA32_of h3 q6 (by omega), eL]
  have l2 : ∀ k, k < len → zaI h 672 (nI (60 * hh + k)) = some (nI (T k)) := fun k hk => by rw [zaI, zA32_of h2 (by omega) (by omega), eX k hk]
  have n1 := nI1_0
  have n0 := nI0_0
  have p0 : ((0 : Int32) ≤ i) = True := eq_true (Int32.le_trans (nI_pos' (by omega)) hi)
  have big : ∀ k, k < 1000 → (i < nI k) = False := fun k hk => eq_false (fun q => by
    have := Int32.lt_of_le_of_lt hi q
    have := (nI_ltI (by omega) (by omega)).mp this
    omega)
  have big2 : ∀ k, k ≤ 1000 → (nI k ≤ i) = True := fun k hk => eq_true (Int32.le_trans ((nI_leI (by omega) (by omega)).mpr hk) hi)
  have wcb : ∀ k, k ≤ len → WC T l k ≤ 9 * k := by
    intro k
    induction k with
    | zero => intro _; exact Nat.le_refl _
    | succ k ih =>
      intro hk
      have := ih (by omega)
      have ml := (ML_pos (T := T) k).2
      rw [WC_s]
      split
      · omega
      · split <;> omega
  intro d
  induction d with
  | zero =>
    intro k f hd hk hf
    obtain ⟨f, rfl⟩ : ∃ k, f = k + 1 := ⟨f - 1, by omega⟩
    obtain rfl : k = len := by omega
    have c : (k ≤ k) = True := eq_true (Nat.le_refl _)
    show g_Model_inLine_15 670 (nI hh) l i h _ (nI (LN T k), nI (WC T l k), nI (ML T k), nI k) = _
    simp (disch := omega) only [g_Model_inLine_15, r3, bind_some', l3, nI_le_iff, c, if_true, p0]
  | succ d ih =>
    intro k f hd hk hf
    obtain ⟨f, rfl⟩ : ∃ k, f = k + 1 := ⟨f - 1, by omega⟩
    have c : (len ≤ k) = False := eq_false (by omega)
    have t := t256 k (by omega)
    have v := hv k (by omega)
    have ml := ML_pos (T := T) k
    have wb := wcb k (by omega)
    have na := ih (k + 1) f (by omega) (by omega) (by omega)
    have w := M_wN (h := h) (c := T k) (a := 50) (b := 57) (lo := 50) (hi := 57) rfl rfl (by omega) (by omega) (by omega)
    rw [← na]
    show g_Model_inLine_15 670 (nI hh) l i h (zloop _ f) (nI (LN T k), nI (WC T l k), nI (ML T k), nI k) = _
    by_cases s : T k = 59
    · have e : LN T (k + 1) = LN T k + 1 := if_pos s
      have e2 : WC T l (k + 1) = WC T l k := if_pos (Or.inl s)
      have tm : TM T k = 0 := by
        rcases v with v | v
        · obtain ⟨x, y, -⟩ := v; omega
        · exact v.2
      have tm1 : TM T (k + 1) = 0 := if_neg (fun w => by obtain ⟨x, y⟩ := w; omega)
      have e3 : ML T (k + 1) = ML T k := by unfold ML; rw [tm, tm1]
      rw [e, e2, e3]
      simp (disch := omega) only [g_Model_inLine_15, r3, bind_some', l3, nI_le_iff, c, if_false, r2, pk_mul, nI_add, l2, nI_eq_iff, eq_true s, if_true]
    · have e : LN T (k + 1) = LN T k := if_neg s
      by_cases dg : isD (T k)
      · rw [if_pos dg] at w
        have e2 : WC T l (k + 1) = WC T l k := if_pos (Or.inr dg)
        have tm1 : TM T (k + 1) = T k - 48 := if_pos dg
        have e3 : ML T (k + 1) = T k - 48 := by
          unfold ML
          rw [tm1, if_neg (by obtain ⟨x, y⟩ := dg; omega)]
        have es : nI (T k) - nI 48 = nI (T k - 48) := nI_subn (by obtain ⟨x, y⟩ := dg; omega)
        rw [e, e2, e3]
        simp (disch := omega) only [g_Model_inLine_15, r3, bind_some', l3, nI_le_iff, c, if_false, r2, pk_mul, nI_add, l2, nI_eq_iff, eq_false s, w, n1, es]
      · rw [if_neg dg] at w
        have hn : ¬ nL (T k) := fun w => w.elim s dg
        have tm1 : TM T (k + 1) = 0 := if_neg dg
        have e3 : ML T (k + 1) = 1 := if_pos tm1
        rw [e, e3]
        by_cases a : nI (LN T k) = l
        · have e2 : WC T l (k + 1) = WC T l k + ML T k := by rw [WC_s, if_neg hn, if_pos a]
          rw [e2]
          simp (disch := omega) only [g_Model_inLine_15, r3, bind_some', l3, nI_le_iff, c, if_false, r2, pk_mul, nI_add, l2, nI_eq_iff, eq_false s, w, n0, if_true, eq_true a, big, big2]
        · have e2 : WC T l (k + 1) = WC T l k := by rw [WC_s, if_neg hn, if_neg a]
          rw [e2]
          simp (disch := omega) only [g_Model_inLine_15, r3, bind_some', l3, nI_le_iff, c, if_false, r2, pk_mul, nI_add, l2, nI_eq_iff, eq_false s, w, n0, if_true, eq_false a]
end MIB
section LIN
variable {h : zH} {n tl w rb ran b : Nat} {X : Nat → Nat → Nat} {Le : Nat → Nat} {Kf : Nat → Int32}
theorem cHuts.HU (c : cHuts n X Le h) : HU n (nwF X Le) (goF X Le) h := HT_HU c.1 c.2.1 c.2.2.1
theorem cHuts.MU (c : cHuts n X Le h) : MU n (nwF X Le) (goF X Le) h := MT_MU c.1 c.2.1 c.2.2.2.1
theorem C_lines (c : cHuts n X Le h) {hh : Nat} (q : hh < n) : m_Huts_linesOf 2 (nI hh) h = some (nI (LN (X hh) (Le hh) + 1)) := by
  obtain ⟨n6, P, ⟨hB, Ls, h17, hH⟩, -, -⟩ := id c
  obtain ⟨cl, e1, e2, e2', e2'', e3, e3'⟩ := HB_rd hB
  have has := (c.HU h (fun _ _ _ => rfl)).2.2.1 (nI hh)
  rw [ix_nI q (by omega)] at has
  have e0 : ((some hh : Option Nat) = none) = False := by simp
  simp only [e0, if_false] at has
  have l17 : zaI h 17 (nI hh) = some (nI (LN (X hh) (Le hh) + 1)) := by rw [zaI, zA32_of h17 (by omega) (by omega), (hH hh q).1]
  simp only [m_Huts_linesOf, zcv_of cl, has, bind_some', nI1_0, if_false, e2'', l17]
theorem f_line (B : BAS n X Le tl w rb ran Kf b h) (x l : Int32) : ∃ r, m_Home_line 0 x l h = some r ∧ m_Model_line 670 x l h = some r := by
  obtain ⟨⟨h0, m, hm, m1, m4, m6, m19, m27⟩, cT, cH, cK, cR, cS, cC, cA, cX⟩ := id B
  have n1 := nI1_0
  have n0 := nI0_0
  have hu := cH.HU h (fun _ _ _ => rfl)
  obtain ⟨n6, cl, has, -, hwords, -⟩ := hu
  have r2 : zrR h 0 6 2 = some 2 := (HO_rd h0).2.2.2.1
  have iH := isHut_M hm m4 n6 x
  have has := has x
  have cvm := fun {α : Type} (o : Option α) => MO_cv h m hm o
  rcases ix_cases x n (by omega) with ⟨z, -⟩ | ⟨hh, q, rfl, z⟩
  · rw [z, if_pos rfl] at has iH
    refine ⟨-1, by simp only [m_Home_line, r2, bind_some', zcv_of cl, has, n0, if_true], ?_⟩
    simp only [m_Model_line, cvm, iH, bind_some', n0, if_true]
  · rw [z] at has iH
    have e0 : ((some hh : Option Nat) = none) = False := by simp
    simp only [e0, if_false] at has iH
    have cl1 := C_lines cH q
    obtain ⟨-, P, -, ⟨Tx, Tm, h2, h3, hM⟩, -⟩ := id cH
    obtain ⟨eL, eX⟩ := hM hh q
    obtain ⟨p60, pv, ptm, pb⟩ := P hh q
    have ln := LN_le (T := X hh) (Le hh)
    have zb := zN_big
    have ml : m_Model_lines 670 (nI hh) h = some (nI (LN (X hh) (Le hh) + 1)) := M_lines_l hm h2 h3 (by omega) p60 eL eX pb (Le hh) 0 zN rfl (by omega) (by omega)
    have wi := M_wI h l (-1) (nI (LN (X hh) (Le hh))) (lo := -1) (hi := (nI (LN (X hh) (Le hh))).toInt64) (by decide) rfl
    have es : nI (LN (X hh) (Le hh) + 1) - nI 1 = nI (LN (X hh) (Le hh)) := by rw [nI_subn (by omega)]; rfl
    by_cases a : l < -1
    · rw [if_pos a] at wi
      exact ⟨-1, by simp only [m_Home_line, r2, bind_some', zcv_of cl, has, n1, if_false, eq_true a, if_true], by simp only [m_Model_line, cvm, iH, bind_some', n1, if_false, g_Model_line_27, ml, es, wi, n0, if_true]⟩
    · rw [if_neg a] at wi
      by_cases b0 : l < 0
      · have e := i32_m1 a b0
        subst e
        have c1 : ((-1 : Int32) < nI (LN (X hh) (Le hh) + 1)) = True := eq_true (Int32.lt_of_lt_of_le (by decide : (-1 : Int32) < 0) (nI_pos' (by omega)))
        have c2 : ¬ nI (LN (X hh) (Le hh)) < -1 := fun q => by
          have := Int32.lt_trans q (by decide : (-1 : Int32) < 0)
          exact nI_pos (by omega) this
        rw [if_neg c2] at wi
        have c3 : ((0 : Int32) ≤ -1) = False := eq_false (by decide)
        exact ⟨nI (LN (X hh) (Le hh) + 1), by simp only [m_Home_line, r2, bind_some', zcv_of cl, has, n1, if_false, eq_false a, cl1, c1, if_true], by simp only [m_Model_line, cvm, iH, bind_some', n1, if_false, g_Model_line_27, ml, es, wi, c3]⟩
      · obtain ⟨j, hj, rfl⟩ := nI_of b0
        by_cases c : j < LN (X hh) (Le hh) + 1
        · have c1 : (nI j < nI (LN (X hh) (Le hh) + 1)) = True := eq_true ((nI_ltI hj (by omega)).mpr c)
          have c2 : ¬ nI (LN (X hh) (Le hh)) < nI j := fun q => by have := (nI_ltI (by omega) hj).mp q; omega
          rw [if_neg c2] at wi
          have c3 : (nI j = -1) = False := nI_eqm1 (by omega)
          have c4 : ((0 : Int32) ≤ nI j) = True := nI_0le (by omega)
          have w1 := (hwords hh q (nI j)).2
          have inl := (M_inL_l (own := hh) hm h2 h3 (by omega) p60 eL eX pb pv (nI j) (Le hh) 0 zN rfl (by omega) (by omega)).2
          have inl : m_Model_inLine 670 (nI hh) (nI j) (-1) h = some (nI (nwF X Le hh (nI j))) := inl
          exact ⟨nI (nwF X Le hh (nI j)), by simp only [m_Home_line, r2, bind_some', zcv_of cl, has, n1, if_false, eq_false a, cl1, c1, if_true, c3, w1], by simp only [m_Model_line, cvm, iH, bind_some', n1, if_false, g_Model_line_27, ml, es, wi, c4, if_true, inl]⟩
        · have c1 : (nI j < nI (LN (X hh) (Le hh) + 1)) = False := eq_false (fun q => c ((nI_ltI hj (by omega)).mp q))
          have c2 : nI (LN (X hh) (Le hh)) < nI j := (nI_ltI (by omega) hj).mpr (by omega)
          rw [if_pos c2] at wi
          exact ⟨-1, by simp only [m_Home_line, r2, bind_some', zcv_of cl, has, n1, if_false, eq_false a, cl1, c1], by simp only [m_Model_line, cvm, iH, bind_some', n1, if_false, g_Model_line_27, ml, es, wi, n0, if_true]⟩
theorem f_goesTo (B : BAS n X Le tl w rb ran Kf b h) (x l i : Int32) : ∃ r, m_Home_goesTo 0 x l i h = some r ∧ m_Model_goesTo 670 x l i h = some r := by
  obtain ⟨⟨h0, m, hm, m1, m4, m6, m19, m27⟩, cT, cH, cK, cR, cS, cC, cA, cX⟩ := id B
  have n1 := nI1_0
  have n0 := nI0_0
  have hu := cH.HU h (fun _ _ _ => rfl)
  obtain ⟨n6, cl, has, -, hwords, hgoal⟩ := hu
  have r2 : zrR h 0 6 2 = some 2 := (HO_rd h0).2.2.2.1
  have iH := isHut_M hm m4 n6 x
  have has := has x
  have cvm := fun {α : Type} (o : Option α) => MO_cv h m hm o
  rcases ix_cases x n (by omega) with ⟨z, -⟩ | ⟨hh, q, rfl, z⟩
  · rw [z, if_pos rfl] at has iH
    exact ⟨-1, by simp only [m_Home_goesTo, r2, bind_some', zcv_of cl, has, n0, if_true], by simp only [m_Model_goesTo, cvm, iH, bind_some', n0, if_true]⟩
  · rw [z] at has iH
    have e0 : ((some hh : Option Nat) = none) = False := by simp
    simp only [e0, if_false] at has iH
    obtain ⟨-, P, -, ⟨Tx, Tm, h2, h3, hM⟩, -⟩ := id cH
    obtain ⟨eL, eX⟩ := hM hh q
    obtain ⟨p60, pv, ptm, pb⟩ := P hh q
    have ln := LN_le (T := X hh) (Le hh)
    have zb := zN_big
    have ml : m_Model_lines 670 (nI hh) h = some (nI (LN (X hh) (Le hh) + 1)) := M_lines_l hm h2 h3 (by omega) p60 eL eX pb (Le hh) 0 zN rfl (by omega) (by omega)
    have es : nI (LN (X hh) (Le hh) + 1) - nI 1 = nI (LN (X hh) (Le hh)) := by rw [nI_subn (by omega)]; rfl
    have wi := M_wX (h := h) (x := l) (b := LN (X hh) (Le hh)) (hi := (nI (LN (X hh) (Le hh))).toInt64) (nI_l (by omega)) (by omega)
    have w1 := hwords hh q l
    by_cases i0 : i < 0
    · refine ⟨-1, by simp only [m_Home_goesTo, r2, bind_some', zcv_of cl, has, n1, if_false, eq_true i0, if_true], ?_⟩
      have c : ((0 : Int32) ≤ i) = False := eq_false (Int32.not_le.mpr i0)
      by_cases y : ix l (LN (X hh) (Le hh) + 1) = none
      · rw [if_pos y] at wi
        simp only [m_Model_goesTo, cvm, iH, bind_some', n1, if_false, g_Model_goesTo_25, ml, es, wi, n0, if_true]
      · rw [if_neg y] at wi
        simp only [m_Model_goesTo, cvm, iH, bind_some', n1, if_false, g_Model_goesTo_25, ml, es, wi, c]
    · have c : ((0 : Int32) ≤ i) = True := eq_true (Int32.not_lt.mp i0)
      obtain ⟨k, hk, rfl⟩ := nI_of i0
      rcases ix_cases l (LN (X hh) (Le hh) + 1) (by omega) with ⟨y, yy⟩ | ⟨j, hj, rfl, y⟩
      · rw [if_pos y] at wi
        have ez : nwF X Le hh l = 0 := by
          rcases nw_line (T := X hh) p60 l with ⟨j, hj, rfl⟩ | e
          · rw [ix_nI hj (by omega)] at y; cases y
          · exact e
        rw [ez] at w1
        have c2 : (nI k < nI 0) = False := eq_false (fun q => by have := (nI_ltI hk (by omega)).mp q; omega)
        exact ⟨-1, by simp only [m_Home_goesTo, r2, bind_some', zcv_of cl, has, n1, if_false, eq_false i0, w1.2, c2], by simp only [m_Model_goesTo, cvm, iH, bind_some', n1, if_false, g_Model_goesTo_25, ml, es, wi, n0, if_true]⟩
      · rw [y] at wi
        have e0j : ((some j : Option Nat) = none) = False := by simp
        simp only [e0j, if_false] at wi
        by_cases kb : k < 1000
        · have inl := (M_inL_l (own := hh) hm h2 h3 (by omega) p60 eL eX pb pv (nI j) (Le hh) 0 zN rfl (by omega) (by omega)).1 k (by omega) rfl
          have inl : m_Model_inLine 670 (nI hh) (nI j) (nI k) h = some (match GO (X hh) (nI j) k (Le hh) with | some x => nI x | none => -1) := inl
          by_cases kk : k < nwF X Le hh (nI j)
          · obtain ⟨x, gx, ex, x6⟩ := P.go q (nI j) k kk
            rw [gx] at inl
            have g1 := (hgoal hh q (nI j) k kk).2
            rw [ex] at g1
            have c2 : (nI k < nI (nwF X Le hh (nI j))) = True := eq_true ((nI_ltI hk (by omega)).mpr kk)
            exact ⟨nI x, by simp only [m_Home_goesTo, r2, bind_some', zcv_of cl, has, n1, if_false, eq_false i0, w1.2, c2, if_true, g1], by simp only [m_Model_goesTo, cvm, iH, bind_some', n1, if_false, g_Model_goesTo_25, ml, es, wi, c, if_true, inl]⟩
          · have c2 : (nI k < nI (nwF X Le hh (nI j))) = False := eq_false (fun q => kk ((nI_ltI hk (by omega)).mp q))
            have gn : GO (X hh) (nI j) k (Le hh) = none := by
              rcases e : GO (X hh) (nI j) k (Le hh) with _ | x
              · rfl
              · exact absurd ((GO_lt (Le hh)).mp (by rw [e]; rfl)) kk
            rw [gn] at inl
            exact ⟨-1, by simp only [m_Home_goesTo, r2, bind_some', zcv_of cl, has, n1, if_false, eq_false i0, w1.2, c2], by simp only [m_Model_goesTo, cvm, iH, bind_some', n1, if_false, g_Model_goesTo_25, ml, es, wi, c, if_true, inl]⟩
        · have inl : m_Model_inLine 670 (nI hh) (nI j) (nI k) h = some (-1) := M_inL_b (own := hh) hm h2 h3 (by omega) p60 eL eX pb (nI j) ((nI_leI (by omega) hk).mpr (by omega)) pv (Le hh) 0 zN rfl (by omega) (by omega)
          have c2 : (nI k < nI (nwF X Le hh (nI j))) = False := eq_false (fun q => by have := (nI_ltI hk (by omega)).mp q; omega)
          exact ⟨-1, by simp only [m_Home_goesTo, r2, bind_some', zcv_of cl, has, n1, if_false, eq_false i0, w1.2, c2], by simp only [m_Model_goesTo, cvm, iH, bind_some', n1, if_false, g_Model_goesTo_25, ml, es, wi, c, if_true, inl]⟩
end LIN
/-- an object that goes through all orders -/
def OE (o : Nat) (sz bg ex : Int32) : zE := .inl (2, [.ref 2, .ref (o + 310), .ref (o + 1), .ref (o + 152), .ref (o + 153), .ref (o + 154), .ref (o + 155), .ref (o + 156), .ref (o + 307), .ref (o + 308), .ref (o + 309), .int sz, .int bg, .int ex])
theorem OE_forget {h : zH} {o : Nat} {sz bg ex : Int32} (ha : h o = OE o sz bg ex) : m_Orders_forget o h = some (zup h o (OE o sz bg (-1))) := by
  have w : zwI h o 2 13 (-1) = some (zup h o (OE o sz bg (-1))) := zwI_of ha (by simp)
  simp only [m_Orders_forget, w, bind_some']
theorem OE_cv {h : zH} {o : Nat} {sz bg ex : Int32} (ha : h o = OE o sz bg ex) {α : Type} (z : Option α) : zcv h o 2 z = z := zcv_of (zcls_of ha)
section HUTS
variable {h : zH} {n tl w rb ran b : Nat} {X : Nat → Nat → Nat} {Le : Nat → Nat} {Kf : Nat → Int32}
theorem M_hut_l {m Tt Tm : Nat → Int32} (hm : h 670 = MO m) (m4 : m 4 = nI n) (h671 : h 671 = zI32 60 Tt) (h673 : h 673 = zI32 6 Tm) (n6 : n < 6) (tl60 : tl ≤ 60) : ∀ (d j f : Nat) (Tx : Nat → Int32), tl - j = d → j ≤ tl → d < f → zloop (g_Model_hut_52 670 (nI tl)) f (nI j, zup h 672 (zI32 360 Tx)) = some (nI n, zup (zup (zup h 672 (zI32 360 (fun k => if 60 * n + j ≤ k ∧ k < 60 * n + tl then Tt (k - 60 * n) else Tx k))) 673 (zI32 6 (upd Tm n (nI tl)))) 670 (MO (upd m 4 (nI (n + 1))))) := by
  have hm' : ∀ e, (zup h 672 e) 670 = MO m := fun e => by rw [zup_ne (by omega)]; exact hm
  have hm2 : ∀ e e', (zup (zup h 672 e) 673 e') 670 = MO m := fun e e' => by rw [zup_ne (by omega)]; exact hm' e
  have a4 : ∀ e, zrI (zup h 672 e) 670 7 4 = some (nI n) := fun e => by rw [MO_rd _ m (by unfold mosc; omega) (hm' e), m4]
  have a4' : ∀ e e', zrI (zup (zup h 672 e) 673 e') 670 7 4 = some (nI n) := fun e e' => by rw [MO_rd _ m (by unfold mosc; omega) (hm2 e e'), m4]
  have a0 : ∀ e, zrR (zup h 672 e) 670 7 0 = some 671 := fun e => (MO_ref _ m (hm' e)).1
  have a2 : ∀ e, zrR (zup h 672 e) 670 7 2 = some 672 := fun e => (MO_ref _ m (hm' e)).2.1
  have a3 : ∀ e, zrR (zup h 672 e) 670 7 3 = some 673 := fun e => (MO_ref _ m (hm' e)).2.2.1
  have l0 : ∀ e k, k < 60 → zaI (zup h 672 e) 671 (nI k) = some (Tt k) := fun e k hk => zA32_of (by rw [zup_ne (by omega)]; exact h671) hk (by omega)
  have s3 : ∀ e x, zsI (zup h 672 e) 673 (nI n) x = some (zup (zup h 672 e) 673 (zI32 6 (upd Tm n x))) := fun e x => by rw [zsI, zS32_of (g := Tm) (n := 6) (by rw [zup_ne (by omega)]; exact h673) n6 (by omega)]
  have w4 : ∀ e e' x, zwI (zup (zup h 672 e) 673 e') 670 7 4 x = some (zup (zup (zup h 672 e) 673 e') 670 (MO (upd m 4 x))) := fun e e' x => MO_wr _ m x (by unfold mosc; omega) (hm2 e e')
  have a4'' : ∀ e e' x, zrI (zup (zup (zup h 672 e) 673 e') 670 (MO (upd m 4 x))) 670 7 4 = some x := fun e e' x => by rw [MO_rd _ _ (by unfold mosc; omega) (zup_eq _ _ _), upd_eq]
  intro d
  induction d with
  | zero =>
    intro j f Tx hd hj hf
    obtain ⟨f, rfl⟩ : ∃ k, f = k + 1 := ⟨f - 1, by omega⟩
    have c : (tl ≤ j) = True := eq_true (by omega)
    have e : (fun k => if 60 * n + j ≤ k ∧ k < 60 * n + tl then Tt (k - 60 * n) else Tx k) = Tx := funext fun k => if_neg (by omega)
    rw [e]
    show g_Model_hut_52 670 (nI tl) _ (nI j, zup h 672 (zI32 360 Tx)) = _
    simp (disch := omega) only [g_Model_hut_52, nI_le_iff, c, if_true, a3, a4, bind_some', s3, a4', nI_add, w4, a4'', nI_subn]
    rfl
  | succ d ih =>
    intro j f Tx hd hj hf
    obtain ⟨f, rfl⟩ : ∃ k, f = k + 1 := ⟨f - 1, by omega⟩
    have c : (tl ≤ j) = False := eq_false (by omega)
    show g_Model_hut_52 670 (nI tl) (zloop _ f) (nI j, zup h 672 (zI32 360 Tx)) = _
    simp (disch := omega) only [g_Model_hut_52, nI_le_iff, c, if_false, a2, a4, a0, l0, bind_some', pk_mul, nI_add, zsI, zS32_st]
    rw [ih (j + 1) f _ (by omega) (by omega) (by omega)]
    have e : (fun k => if 60 * n + (j + 1) ≤ k ∧ k < 60 * n + tl then Tt (k - 60 * n) else upd Tx (60 * n + j) (Tt j) k) = (fun k => if 60 * n + j ≤ k ∧ k < 60 * n + tl then Tt (k - 60 * n) else Tx k) := funext fun k => by
      unfold upd
      by_cases e1 : k = 60 * n + j
      · rw [if_neg (by omega), if_pos e1, if_pos (by omega), show k - 60 * n = j by omega]
      · by_cases e2 : 60 * n + j ≤ k ∧ k < 60 * n + tl
        · rw [if_pos (by omega), if_pos e2]
        · rw [if_neg (by omega), if_neg e1, if_neg e2]
    rw [e]
def xU {α : Type} (X : Nat → α) (n : Nat) (x : α) : Nat → α := fun k => if k = n then x else X k
theorem xU_eq {α : Type} {X : Nat → α} {n : Nat} {x : α} : xU X n x n = x := if_pos rfl
theorem xU_ne {α : Type} {X : Nat → α} {n k : Nat} {x : α} (q : k ≠ n) : xU X n x k = X k := if_neg q
theorem f_hut (B : BAS n X Le tl w rb ran Kf b h) {a1 a2 a3 b1 b2 b3 : Int32} (o1 : h 21 = OE 21 a1 a2 a3) (o2 : h 332 = OE 332 b1 b2 b3) : ∃ r h1 h2, m_Home_hut 0 h = some (r, h1) ∧ m_Model_hut 670 h1 = some (r, h2) ∧
    (((∃ tl', BAS n X Le tl' w rb ran Kf b h2) ∧ ∀ k, 21 ≤ k → k < 643 → h2 k = h k) ∨ ((∃ X' Le', BAS (n + 1) X' Le' 0 w rb ran Kf b h2) ∧ h2 21 = OE 21 a1 a2 (-1) ∧ h2 332 = OE 332 b1 b2 (-1) ∧ ∀ k, 21 ≤ k → k < 643 → k ≠ 21 → k ≠ 332 → h2 k = h k)) := by
  obtain ⟨⟨h0, m, hm, m1, m4, m6, m19, m27⟩, ⟨t60, Tt, t1, t2, tb⟩, cH, cK, cR, cS, cC, cA, cX⟩ := id B
  obtain ⟨n6, P, ⟨hB, Ls, h17, hH⟩, ⟨Tx, Tm, h672, h673, hM⟩, hO⟩ := id cH
  obtain ⟨r4, rn, -⟩ := id cR
  have n1 := nI1_0
  have n0 := nI0_0
  have zb := zN_big
  obtain ⟨cl, e1, -⟩ := HB_rd hB
  obtain ⟨-, q0, q1, q2, -, -, -, q6, -, -, -, -, -⟩ := HO_rd h0
  have p19 : zrI h 670 7 19 = some (nI rb) := by rw [MO_rd h m (by unfold mosc; omega) hm, m19]
  have p4 : zrI h 670 7 4 = some (nI n) := by rw [MO_rd h m (by unfold mosc; omega) hm, m4]
  by_cases c0 : rb = 0
  · subst c0
    have d0 : (nI 0 ≤ 0) = True := by rw [nI_0]; simp
    by_cases c6 : n = 6
    · have d1 : (nI n < nI 6) = False := by rw [c6]; simp
      have d2 : (nI n = nI 6) = True := by rw [c6]; simp
      refine ⟨-3, h, h, by simp only [m_Home_hut, q6, bind_some', d0, if_true, q2, zcv_of cl, m_Huts_size, e1, d1, if_false], by simp only [m_Model_hut, p19, bind_some', d0, if_true, p4, d2], Or.inl ⟨⟨tl, B⟩, fun k _ _ => rfl⟩⟩
    · have n6' : n < 6 := by omega
      have d1 : (nI n < nI 6) = True := eq_true ((nI_ltI (by omega) (by omega)).mpr n6')
      have d2 : (nI n = nI 6) = False := eq_false (fun q => c6 ((nI_eq (by omega) (by omega)).mp q))
      obtain ⟨T, hT⟩ : ∃ T : Nat → Nat, ∀ k, k < 60 → Tt k = nI (T k) ∧ T k < 256 := ⟨fun k => (Tt k).toNatClampNeg, fun k hk => by
        obtain ⟨t, h256, e⟩ := tb k hk
        dsimp only
        rw [e, nI_cl (by omega)]
        exact ⟨rfl, h256⟩⟩
      obtain ⟨S, G, hS, hG, hS0⟩ := hO n (Nat.le_refl _) n6'
      obtain ⟨rdF1, rdN⟩ := s_read (len := tl) hB n6' t1 hT h17 t60 hS hG hS0
      have cvh := fun {α : Type} (h' : zH) (q : h' 2 = huE n) (o : Option α) => (zcv_of (zcls_of q) : zcv h' 2 1 o = o)
      rcases ef : flt T n tl 0 with _ | fq
      · obtain ⟨S', G', hJ, er⟩ := rdN ef
        obtain ⟨ok, tm⟩ := flt_none tl 0 ef
        rw [Nat.zero_add] at tm
        have ln := LN_le (T := T) tl
        -- the class
        have hF : ∀ k, k ≠ 2 → k ≠ 17 → k ≠ 4 + n → k ≠ 11 + n → rdF h n S' G' Ls (LN T tl + 1) k = h k := fun k a b c d => by
          unfold rdF hr
          rw [zup_ne a, zup_ne b, zup_ne c, zup_ne d]
        have hF2 : rdF h n S' G' Ls (LN T tl + 1) 2 = huE (n + 1) := by unfold rdF; rw [zup_eq]
        have hF17 : rdF h n S' G' Ls (LN T tl + 1) 17 = zI32 6 (upd Ls n (nI (LN T tl + 1))) := by unfold rdF; rw [zup_ne (by omega), zup_eq]
        have hFS : rdF h n S' G' Ls (LN T tl + 1) (11 + n) = zI32 62 S' := by unfold rdF hr; rw [zup_ne (by omega), zup_ne (by omega), zup_ne (by omega), zup_eq]
        have hFG : rdF h n S' G' Ls (LN T tl + 1) (4 + n) = zI32 270 G' := by unfold rdF hr; rw [zup_ne (by omega), zup_ne (by omega), zup_eq]
        generalize rdF h n S' G' Ls (LN T tl + 1) = hf at er hF hF2 hF17 hFS hFG
        have f0 : hf 0 = HO tl w 0 := by rw [hF 0 (by omega) (by omega) (by omega) (by omega)]; exact h0
        have w1 : zwI hf 0 6 1 (nI 0) = some (zup hf 0 (HO 0 w 0)) := (HO_wr f0).1 0
        have g0 : ∀ e e', (zup (zup (zup hf 0 (HO 0 w 0)) 21 e) 332 e') 0 = HO 0 w 0 := fun e e' => by rw [zup_ne (by omega), zup_ne (by omega), zup_eq]
        have g21 : (zup hf 0 (HO 0 w 0)) 21 = OE 21 a1 a2 a3 := by rw [zup_ne (by omega), hF 21 (by omega) (by omega) (by omega) (by omega)]; exact o1
        have g332 : ∀ e, (zup (zup hf 0 (HO 0 w 0)) 21 e) 332 = OE 332 b1 b2 b3 := fun e => by rw [zup_ne (by omega), zup_ne (by omega), hF 332 (by omega) (by omega) (by omega) (by omega)]; exact o2
        have g2 : ∀ e e', (zup (zup (zup hf 0 (HO 0 w 0)) 21 e) 332 e') 2 = huE (n + 1) := fun e e' => by rw [zup_ne (by omega), zup_ne (by omega), zup_ne (by omega)]; exact hF2
        have fg1 := OE_forget g21
        have fg2 := fun e => OE_forget (g332 e)
        have rr8 : zrR (zup hf 0 (HO 0 w 0)) 0 6 8 = some 21 := (HO_rd (zup_eq _ _ _)).2.2.2.2.2.2.2.2.2.1
        have rr9 : ∀ e, zrR (zup (zup hf 0 (HO 0 w 0)) 21 e) 0 6 9 = some 332 := fun e => (HO_rd (by rw [zup_ne (by omega), zup_eq])).2.2.2.2.2.2.2.2.2.2.1
        have rr2 : ∀ e e', zrR (zup (zup (zup hf 0 (HO 0 w 0)) 21 e) 332 e') 0 6 2 = some 2 := fun e e' => (HO_rd (g0 e e')).2.2.2.1
        have sz : ∀ e e', m_Huts_size 2 (zup (zup (zup hf 0 (HO 0 w 0)) 21 e) 332 e') = some (nI (n + 1)) := fun e e' => by
          have : zrI (zup (zup (zup hf 0 (HO 0 w 0)) 21 e) 332 e') 2 1 3 = some (nI (n + 1)) := zrI_of (g2 e e') rfl
          simp only [m_Huts_size, this, bind_some']
        have cvv : ∀ {α : Type} e e' (o : Option α), zcv (zup (zup (zup hf 0 (HO 0 w 0)) 21 e) 332 e') 2 1 o = o := fun e e' o => zcv_of (zcls_of (g2 e e'))
        have mm : ((-1 : Int32) = -1) = True := by simp
        have eC : m_Home_hut 0 h = some (nI n, zup (zup (zup hf 0 (HO 0 w 0)) 21 (OE 21 a1 a2 (-1))) 332 (OE 332 b1 b2 (-1))) := by
          simp (disch := omega) only [m_Home_hut, q6, bind_some', d0, if_true, q2, zcv_of cl, m_Huts_size, e1, d1, q0, q1, er, zb2_some, w1, mm, rr8, OE_cv g21, fg1, rr9, OE_cv (g332 _), fg2, rr2, cvv]
          have := sz (OE 21 a1 a2 (-1)) (OE 332 b1 b2 (-1))
          rw [m_Huts_size] at this
          rw [this, bind_some', nI_subn (by omega)]
          rfl
        -- the model
        have i670 : ∀ e e', (zup (zup (zup hf 0 (HO 0 w 0)) 21 e) 332 e') 670 = MO m := fun e e' => by rw [zup_ne (by omega), zup_ne (by omega), zup_ne (by omega), hF 670 (by omega) (by omega) (by omega) (by omega)]; exact hm
        have i671 : ∀ e e', (zup (zup (zup hf 0 (HO 0 w 0)) 21 e) 332 e') 671 = zI32 60 Tt := fun e e' => by rw [zup_ne (by omega), zup_ne (by omega), zup_ne (by omega), hF 671 (by omega) (by omega) (by omega) (by omega)]; exact t2
        have i672 : ∀ e e', (zup (zup (zup hf 0 (HO 0 w 0)) 21 e) 332 e') 672 = zI32 360 Tx := fun e e' => by rw [zup_ne (by omega), zup_ne (by omega), zup_ne (by omega), hF 672 (by omega) (by omega) (by omega) (by omega)]; exact h672
        have i673 : ∀ e e', (zup (zup (zup hf 0 (HO 0 w 0)) 21 e) 332 e') 673 = zI32 6 Tm := fun e e' => by rw [zup_ne (by omega), zup_ne (by omega), zup_ne (by omega), hF 673 (by omega) (by omega) (by omega) (by omega)]; exact h673
        have iq : ∀ k, k ≠ 0 → k ≠ 21 → k ≠ 332 → k ≠ 2 → k ≠ 17 → k ≠ 4 + n → k ≠ 11 + n → (zup (zup (zup hf 0 (HO 0 w 0)) 21 (OE 21 a1 a2 (-1))) 332 (OE 332 b1 b2 (-1))) k = h k := fun k a b c d e f g => by rw [zup_ne c, zup_ne b, zup_ne a, hF k d e f g]
        have i0 := g0 (OE 21 a1 a2 (-1)) (OE 332 b1 b2 (-1))
        have i2 := g2 (OE 21 a1 a2 (-1)) (OE 332 b1 b2 (-1))
        have i17 : (zup (zup (zup hf 0 (HO 0 w 0)) 21 (OE 21 a1 a2 (-1))) 332 (OE 332 b1 b2 (-1))) 17 = zI32 6 (upd Ls n (nI (LN T tl + 1))) := by rw [zup_ne (by omega), zup_ne (by omega), zup_ne (by omega)]; exact hF17
        have iS : (zup (zup (zup hf 0 (HO 0 w 0)) 21 (OE 21 a1 a2 (-1))) 332 (OE 332 b1 b2 (-1))) (11 + n) = zI32 62 S' := by rw [zup_ne (by omega), zup_ne (by omega), zup_ne (by omega)]; exact hFS
        have iG : (zup (zup (zup hf 0 (HO 0 w 0)) 21 (OE 21 a1 a2 (-1))) 332 (OE 332 b1 b2 (-1))) (4 + n) = zI32 270 G' := by rw [zup_ne (by omega), zup_ne (by omega), zup_ne (by omega)]; exact hFG
        have i21 : (zup (zup (zup hf 0 (HO 0 w 0)) 21 (OE 21 a1 a2 (-1))) 332 (OE 332 b1 b2 (-1))) 21 = OE 21 a1 a2 (-1) := by rw [zup_ne (by omega), zup_eq]
        have i332 : (zup (zup (zup hf 0 (HO 0 w 0)) 21 (OE 21 a1 a2 (-1))) 332 (OE 332 b1 b2 (-1))) 332 = OE 332 b1 b2 (-1) := zup_eq _ _ _
        have i670 := i670 (OE 21 a1 a2 (-1)) (OE 332 b1 b2 (-1))
        have i671 := i671 (OE 21 a1 a2 (-1)) (OE 332 b1 b2 (-1))
        have i672 := i672 (OE 21 a1 a2 (-1)) (OE 332 b1 b2 (-1))
        have i673 := i673 (OE 21 a1 a2 (-1)) (OE 332 b1 b2 (-1))
        generalize zup (zup (zup hf 0 (HO 0 w 0)) 21 (OE 21 a1 a2 (-1))) 332 (OE 332 b1 b2 (-1)) = hc at eC i670 i671 i672 i673 iq i0 i2 i17 iS iG i21 i332
        have s19 : zrI hc 670 7 19 = some (nI 0) := by rw [MO_rd hc m (by unfold mosc; omega) i670, m19]
        have s4 : zrI hc 670 7 4 = some (nI n) := by rw [MO_rd hc m (by unfold mosc; omega) i670, m4]
        have s1 : zrI hc 670 7 1 = some (nI tl) := by rw [MO_rd hc m (by unfold mosc; omega) i670, m1]
        have sw : zwI hc 670 7 1 (nI 0) = some (zup hc 670 (MO (upd m 1 (nI 0)))) := MO_wr hc m (nI 0) (by unfold mosc; omega) i670
        have mf := M_fault (h := hc) (own := n) (len := tl) i670 m1 i671 hT t60 n6'
        rw [ef] at mf
        have mf : m_Model_faultOf 670 (nI n) hc = some (-1) := mf
        have lp := M_hut_l (h := zup hc 670 (MO (upd m 1 (nI 0)))) (n := n) (m := upd m 1 (nI 0)) (Tt := Tt) (Tm := Tm) (zup_eq _ _ _) (by rw [upd_ne (by omega)]; exact m4) (by rw [zup_ne (by omega)]; exact i671) (by rw [zup_ne (by omega)]; exact i673) n6' t60 tl 0 zN Tx rfl (by omega) (by omega)
        rw [zup_self (h := zup hc 670 (MO (upd m 1 (nI 0)))) (a := 672) (e := zI32 360 Tx) (by rw [zup_ne (by omega)]; exact i672)] at lp
        have mlt : ((-1 : Int32) < 0) = True := eq_true (by decide)
        have eM : m_Model_hut 670 hc = _ := Eq.trans (by simp only [m_Model_hut, s19, bind_some', d0, if_true, s4, d2, if_false, MO_cv hc m i670, mf, s1, sw, mlt]) lp
        refine ⟨nI n, hc, _, eC, eM, Or.inr ⟨⟨xU X n T, xU Le n tl, ?_⟩, ?_, ?_, fun k a b c d => ?_⟩⟩
        · have q : ∀ (E1 E2 E3 E4 : zE) (k : Nat), k ≠ 670 → k ≠ 672 → k ≠ 673 → zup (zup (zup (zup hc 670 E1) 672 E2) 673 E3) 670 E4 k = hc k := fun E1 E2 E3 E4 k a b c => by rw [zup_ne a, zup_ne c, zup_ne b, zup_ne a]
          have Q : ∀ (E1 E2 E3 E4 : zE) (k : Nat), k ≠ 670 → k ≠ 672 → k ≠ 673 → k ≠ 0 → k ≠ 21 → k ≠ 332 → ¬ (2 ≤ k ∧ k < 18) → zup (zup (zup (zup hc 670 E1) 672 E2) 673 E3) 670 E4 k = h k := fun E1 E2 E3 E4 k a b c d e f g => by rw [q E1 E2 E3 E4 k a b c, iq k d e f (by omega) (by omega) (by omega) (by omega)]
          refine ⟨⟨by rw [q _ _ _ _ 0 (by omega) (by omega) (by omega)]; exact i0, _, zup_eq _ _ _, ?_, upd_eq _ _ _, ?_, ?_, ?_⟩, ⟨by omega, Tt, by rw [Q _ _ _ _ 1 (by omega) (by omega) (by omega) (by omega) (by omega) (by omega) (by omega)]; exact t1, by rw [q _ _ _ _ 671 (by omega) (by omega) (by omega)]; exact i671, tb⟩, ⟨by omega, fun hh hq => ?_, ⟨⟨by rw [q _ _ _ _ 2 (by omega) (by omega) (by omega)]; exact i2, ?_, ?_⟩, upd Ls n (nI (LN T tl + 1)), by rw [q _ _ _ _ 17 (by omega) (by omega) (by omega)]; exact i17, fun hh hq => ?_⟩, ⟨_, _, by rw [zup_ne (by omega), zup_ne (by omega), zup_eq], by rw [zup_ne (by omega), zup_eq], fun hh hq => ?_⟩, fun k k1 k2 => ?_⟩, cK.fr fun k y => Q _ _ _ _ k (by omega) (by omega) (by omega) (by omega) (by omega) (by omega) (by omega), cRuns.n0 (n := n) (cR.fr fun k y => Q _ _ _ _ k (by omega) (by omega) (by omega) (by omega) (by omega) (by omega) (by omega)), cS.fr fun k y => Q _ _ _ _ k (by omega) (by omega) (by omega) (by omega) (by omega) (by omega) (by omega), cC.fr fun k y => Q _ _ _ _ k (by omega) (by omega) (by omega) (by omega) (by omega) (by omega) (by omega), cA.fr fun k y => Q _ _ _ _ k (by omega) (by omega) (by omega) (by omega) (by omega) (by omega) (by omega), cX.fr fun k y => Q _ _ _ _ k (by omega) (by omega) (by omega) (by omega) (by omega) (by omega) (by omega)⟩
          · rw [upd_ne (by omega), upd_eq]
          · rw [upd_ne (by omega), upd_ne (by omega)]; exact m6
          · rw [upd_ne (by omega), upd_ne (by omega)]; exact m19
          · rw [upd_ne (by omega), upd_ne (by omega)]; exact m27
          · by_cases e : hh = n
            · subst e
              rw [xU_eq, xU_eq]
              exact ⟨t60, fun j hj => ok j (by omega) (by omega), tm, fun j hj => (hT j (by omega)).2⟩
            · rw [xU_ne e, xU_ne e]
              exact P hh (by omega)
          · obtain ⟨g, x, y⟩ := hB.2.1
            exact ⟨g, by rw [q _ _ _ _ 3 (by omega) (by omega) (by omega), iq 3 (by omega) (by omega) (by omega) (by omega) (by omega) (by omega) (by omega)]; exact x, y⟩
          · obtain ⟨g, x, y⟩ := hB.2.2
            exact ⟨g, by rw [q _ _ _ _ 10 (by omega) (by omega) (by omega), iq 10 (by omega) (by omega) (by omega) (by omega) (by omega) (by omega) (by omega)]; exact x, y⟩
          · by_cases e : hh = n
            · subst e
              rw [xU_eq, xU_eq, upd_eq]
              exact ⟨rfl, S', G', by rw [q _ _ _ _ (11 + hh) (by omega) (by omega) (by omega)]; exact iS, by rw [q _ _ _ _ (4 + hh) (by omega) (by omega) (by omega)]; exact iG, hJ⟩
            · rw [xU_ne e, xU_ne e, upd_ne e]
              obtain ⟨x, S2, G2, y, z, t⟩ := hH hh (by omega)
              exact ⟨x, S2, G2, by rw [q _ _ _ _ (11 + hh) (by omega) (by omega) (by omega), iq (11 + hh) (by omega) (by omega) (by omega) (by omega) (by omega) (by omega) (by omega)]; exact y, by rw [q _ _ _ _ (4 + hh) (by omega) (by omega) (by omega), iq (4 + hh) (by omega) (by omega) (by omega) (by omega) (by omega) (by omega) (by omega)]; exact z, t⟩
          · by_cases e : hh = n
            · subst e
              rw [xU_eq, xU_eq, upd_eq]
              refine ⟨rfl, fun k hk => ?_⟩
              rw [if_pos (by omega), show 60 * hh + k - 60 * hh = k by omega]
              exact (hT k (by omega)).1
            · rw [xU_ne e, xU_ne e, upd_ne e]
              obtain ⟨x, y⟩ := hM hh (by omega)
              refine ⟨x, fun k hk => ?_⟩
              have := (P hh (by omega)).1
              rw [if_neg (by omega)]
              exact y k hk
          · obtain ⟨S2, G2, y, z, t⟩ := hO k (by omega) k2
            exact ⟨S2, G2, by rw [q _ _ _ _ (11 + k) (by omega) (by omega) (by omega), iq (11 + k) (by omega) (by omega) (by omega) (by omega) (by omega) (by omega) (by omega)]; exact y, by rw [q _ _ _ _ (4 + k) (by omega) (by omega) (by omega), iq (4 + k) (by omega) (by omega) (by omega) (by omega) (by omega) (by omega) (by omega)]; exact z, t⟩
        · rw [zup_ne (by omega), zup_ne (by omega), zup_ne (by omega), zup_ne (by omega)]; exact i21
        · rw [zup_ne (by omega), zup_ne (by omega), zup_ne (by omega), zup_ne (by omega)]; exact i332
        · rw [zup_ne (by omega), zup_ne (by omega), zup_ne (by omega), zup_ne (by omega)]
          exact iq k (by omega) c d (by omega) (by omega) (by omega) (by omega)
      · obtain ⟨S', G', hS0', fl, er⟩ := rdF1 fq ef
        have hF : ∀ k, k ≠ 4 + n → k ≠ 11 + n → hr h n S' G' k = h k := fun k c d => by
          unfold hr
          rw [zup_ne c, zup_ne d]
        have hFS : hr h n S' G' (11 + n) = zI32 62 S' := by unfold hr; rw [zup_ne (by omega), zup_eq]
        have hFG : hr h n S' G' (4 + n) = zI32 270 G' := by unfold hr; rw [zup_eq]
        generalize hr h n S' G' = hf at er hF hFS hFG
        have f0 : hf 0 = HO tl w 0 := by rw [hF 0 (by omega) (by omega)]; exact h0
        have w1 : zwI hf 0 6 1 (nI 0) = some (zup hf 0 (HO 0 w 0)) := (HO_wr f0).1 0
        have fm1 : (nI fq = -1) = False := nI_eqm1 (by omega)
        have eC : m_Home_hut 0 h = some (-100 - nI fq, zup hf 0 (HO 0 w 0)) := by
          simp (disch := omega) only [m_Home_hut, q6, bind_some', d0, if_true, q2, zcv_of cl, m_Huts_size, e1, d1, q0, q1, er, zb2_some, w1, fm1, if_false]
        have i670 : (zup hf 0 (HO 0 w 0)) 670 = MO m := by rw [zup_ne (by omega), hF 670 (by omega) (by omega)]; exact hm
        have i671 : (zup hf 0 (HO 0 w 0)) 671 = zI32 60 Tt := by rw [zup_ne (by omega), hF 671 (by omega) (by omega)]; exact t2
        have iq : ∀ k, k ≠ 0 → k ≠ 4 + n → k ≠ 11 + n → (zup hf 0 (HO 0 w 0)) k = h k := fun k a b c => by rw [zup_ne a, hF k b c]
        have i0 : (zup hf 0 (HO 0 w 0)) 0 = HO 0 w 0 := zup_eq _ _ _
        have iS : (zup hf 0 (HO 0 w 0)) (11 + n) = zI32 62 S' := by rw [zup_ne (by omega)]; exact hFS
        have iG : (zup hf 0 (HO 0 w 0)) (4 + n) = zI32 270 G' := by rw [zup_ne (by omega)]; exact hFG
        generalize zup hf 0 (HO 0 w 0) = hc at eC i670 i671 iq i0 iS iG
        have s19 : zrI hc 670 7 19 = some (nI 0) := by rw [MO_rd hc m (by unfold mosc; omega) i670, m19]
        have s4 : zrI hc 670 7 4 = some (nI n) := by rw [MO_rd hc m (by unfold mosc; omega) i670, m4]
        have s1 : zrI hc 670 7 1 = some (nI tl) := by rw [MO_rd hc m (by unfold mosc; omega) i670, m1]
        have sw : zwI hc 670 7 1 (nI 0) = some (zup hc 670 (MO (upd m 1 (nI 0)))) := MO_wr hc m (nI 0) (by unfold mosc; omega) i670
        have mf := M_fault (h := hc) (own := n) (len := tl) i670 m1 i671 hT t60 n6'
        rw [ef] at mf
        have mf : m_Model_faultOf 670 (nI n) hc = some (nI fq) := mf
        have mlt : (nI fq < 0) = False := nI_lt0 (by omega)
        have eM : m_Model_hut 670 hc = some (-100 - nI fq, zup hc 670 (MO (upd m 1 (nI 0)))) := by
          simp only [m_Model_hut, s19, bind_some', d0, if_true, s4, d2, if_false, MO_cv hc m i670, mf, s1, sw, mlt]
        refine ⟨-100 - nI fq, hc, _, eC, eM, Or.inl ⟨⟨0, ?_⟩, fun k a b => ?_⟩⟩
        · have q : ∀ (E1 : zE) (k : Nat), k ≠ 670 → k ≠ 0 → k ≠ 4 + n → k ≠ 11 + n → zup hc 670 E1 k = h k := fun E1 k a b c d => by rw [zup_ne a, iq k b c d]
          refine ⟨⟨by rw [zup_ne (by omega)]; exact i0, _, zup_eq _ _ _, upd_eq _ _ _, ?_, ?_, ?_, ?_⟩, ⟨by omega, Tt, by rw [q _ 1 (by omega) (by omega) (by omega) (by omega)]; exact t1, by rw [zup_ne (by omega)]; exact i671, tb⟩, ⟨n6, P, ⟨⟨?_, ?_, ?_⟩, Ls, ?_, fun hh hq => ?_⟩, ⟨Tx, Tm, ?_, ?_, hM⟩, fun k k1 k2 => ?_⟩, cK.fr fun k y => q _ k (by omega) (by omega) (by omega) (by omega), cR.fr fun k y => q _ k (by omega) (by omega) (by omega) (by omega), cS.fr fun k y => q _ k (by omega) (by omega) (by omega) (by omega), cC.fr fun k y => q _ k (by omega) (by omega) (by omega) (by omega), cA.fr fun k y => q _ k (by omega) (by omega) (by omega) (by omega), cX.fr fun k y => q _ k (by omega) (by omega) (by omega) (by omega)⟩
          · rw [upd_ne (by omega)]; exact m4
          · rw [upd_ne (by omega)]; exact m6
          · rw [upd_ne (by omega)]; exact m19
          · rw [upd_ne (by omega)]; exact m27
          · rw [q _ 2 (by omega) (by omega) (by omega) (by omega)]; exact hB.1
          · obtain ⟨g, x, y⟩ := hB.2.1
            exact ⟨g, by rw [q _ 3 (by omega) (by omega) (by omega) (by omega)]; exact x, y⟩
          · obtain ⟨g, x, y⟩ := hB.2.2
            exact ⟨g, by rw [q _ 10 (by omega) (by omega) (by omega) (by omega)]; exact x, y⟩
          · rw [q _ 17 (by omega) (by omega) (by omega) (by omega)]; exact h17
          · obtain ⟨x, S2, G2, y, z, t⟩ := hH hh hq
            exact ⟨x, S2, G2, by rw [q _ (11 + hh) (by omega) (by omega) (by omega) (by omega)]; exact y, by rw [q _ (4 + hh) (by omega) (by omega) (by omega) (by omega)]; exact z, t⟩
          · rw [q _ 672 (by omega) (by omega) (by omega) (by omega)]; exact h672
          · rw [q _ 673 (by omega) (by omega) (by omega) (by omega)]; exact h673
          · by_cases e : k = n
            · subst e
              exact ⟨S', G', by rw [zup_ne (by omega)]; exact iS, by rw [zup_ne (by omega)]; exact iG, hS0'⟩
            · obtain ⟨S2, G2, y, z, t⟩ := hO k k1 k2
              exact ⟨S2, G2, by rw [q _ (11 + k) (by omega) (by omega) (by omega) (by omega)]; exact y, by rw [q _ (4 + k) (by omega) (by omega) (by omega) (by omega)]; exact z, t⟩
        · rw [zup_ne (by omega)]
          exact iq k (by omega) (by omega) (by omega)
  · have d0 : (nI rb ≤ 0) = False := by rw [nI_le0 (by omega)]; exact eq_false c0
    exact ⟨-5, h, h, by simp only [m_Home_hut, q6, bind_some', d0, if_false], by simp only [m_Model_hut, p19, bind_some', d0, if_false], Or.inl ⟨⟨tl, B⟩, fun k _ _ => rfl⟩⟩
end HUTS
