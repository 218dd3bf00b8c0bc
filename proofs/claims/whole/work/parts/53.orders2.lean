/-! ALL ORDERS, THE CLASS: one step tried -/
theorem zS_st {h : zH} {a n k : Nat} {g : Nat → Int32} {x : Int32} (ha : h a = zI32 n g) (hk : k < n) (hn : n ≤ 100000) : ∃ h', zsI h a (nI k) x = some h' ∧ h' a = zI32 n (upd g k x) ∧ ∀ j, j ≠ a → h' j = h j :=
  ⟨_, zS32_of ha hk hn, zup_eq _ _ _, fun j q => zup_ne q⟩
section OTR
variable {h : zH} {o kd n : Nat} {b : bT} {sp g g' : Nat → Int32} {ex : Int32} {nw : Nat → Int32 → Nat} {go : Nat → Int32 → Nat → Nat}
theorem s_add (O : ORB o kd b sp ex h) (hz : bSz b < 150) {x1 : Int32} {code d : Nat} (hx : (x1 = -1 ∧ d = 0) ∨ ∃ s, s < bSz b ∧ x1 = nI s ∧ d = bDp b s + 1) : ∃ h', m_Orders_addSpare o x1 (nI code) h = some (nI (bSz b), h') ∧ ORB o kd (bSz b + 1, xU (bG b) (bSz b) sp, xU (bAh b) (bSz b) x1, xU (bCd b) (bSz b) (nI code), xU (bDp b) (bSz b) d, bNx b, xU (bNs b) (bSz b) 0, bBig b) sp ex h' ∧ ∀ k, k < o ∨ o + 311 ≤ k → h' k = h k := by
  obtain ⟨a0, a1, ⟨g1, b1, c1⟩, ⟨g2, b2, c2⟩, a4, ⟨g5, b5, c5⟩, ⟨g6, b6, c6⟩, ⟨g7, b7, c7⟩, ⟨g8, b8, c8⟩, a9, ⟨g10, b10, c10⟩, ⟨CS, a11⟩, a12, a13⟩ := id O
  obtain ⟨r0, r1, r2, r3, r4, r5, r6, r7, r8, r9, r10, r11, r12, r13⟩ := OE_rd a0
  obtain ⟨fr, x4, y4, -⟩ := a4 (bSz b) hz
  have eR : zaR 5 h (o + 1) (nI (bSz b)) = some (o + 2 + bSz b) := zaR_of b1 hz (by omega) (c1 _ hz)
  obtain ⟨h1, w1, v1, f1⟩ : ∃ h1, zcpI h (o + 309) (nI 0) (o + 2 + bSz b) (nI 0) (nI 123) = some h1 ∧ h1 (o + 2 + bSz b) = zI32 123 sp ∧ ∀ j, j ≠ o + 2 + bSz b → h1 j = h j :=
    ⟨_, zcpI_of a12 x4 (by omega) (by omega) (by omega), by rw [zup_eq, va_cpy_all a13 y4], fun j q => zup_ne q⟩
  have E1 : h1 o = OE o (nI (bSz b)) (if bBig b = true then nI 1 else nI 0) ex := by rw [f1 o (by omega)]; exact a0
  obtain ⟨-, -, -, p3, -, -, -, -, -, -, p10, p11, -, -⟩ := OE_rd E1
  have eP : m_Orders_printOf (o + 309) h1 = some (prt sp 121) := s_prt (by rw [f1 _ (by omega)]; exact a12)
  obtain ⟨h2, w2, v2, f2⟩ := zS_st (h := h1) (a := o + 152) (n := 150) (k := bSz b) (g := g5) (x := prt sp 121) (by rw [f1 _ (by omega)]; exact b5) hz (by omega)
  have E2 : h2 o = OE o (nI (bSz b)) (if bBig b = true then nI 1 else nI 0) ex := by rw [f2 o (by omega)]; exact E1
  obtain ⟨-, -, -, -, q4, -, -, -, -, -, -, q11, -, -⟩ := OE_rd E2
  obtain ⟨h3, w3, v3, f3⟩ := zS_st (h := h2) (a := o + 153) (n := 150) (k := bSz b) (g := g6) (x := x1) (by rw [f2 _ (by omega), f1 _ (by omega)]; exact b6) hz (by omega)
  have E3 : h3 o = OE o (nI (bSz b)) (if bBig b = true then nI 1 else nI 0) ex := by rw [f3 o (by omega)]; exact E2
  obtain ⟨-, -, -, -, -, s5, -, -, -, -, -, s11, -, -⟩ := OE_rd E3
  obtain ⟨h4, w4, v4, f4⟩ := zS_st (h := h3) (a := o + 154) (n := 150) (k := bSz b) (g := g7) (x := nI code) (by rw [f3 _ (by omega), f2 _ (by omega), f1 _ (by omega)]; exact b7) hz (by omega)
  have E4 : h4 o = OE o (nI (bSz b)) (if bBig b = true then nI 1 else nI 0) ex := by rw [f4 o (by omega)]; exact E3
  obtain ⟨-, -, -, -, -, -, t6, -, -, -, -, t11, -, -⟩ := OE_rd E4
  have b8' : h4 (o + 155) = zI32 150 g8 := by rw [f4 _ (by omega), f3 _ (by omega), f2 _ (by omega), f1 _ (by omega)]; exact b8
  obtain ⟨h5, w5, v5, f5⟩ := zS_st (h := h4) (a := o + 155) (n := 150) (k := bSz b) (g := g8) (x := nI d) b8' hz (by omega)
  have E5 : h5 o = OE o (nI (bSz b)) (if bBig b = true then nI 1 else nI 0) ex := by rw [f5 o (by omega)]; exact E4
  obtain ⟨-, -, -, -, -, -, -, -, u8, -, -, u11, -, -⟩ := OE_rd E5
  obtain ⟨h6, w6, v6, f6⟩ := zS_st (h := h5) (a := o + 307) (n := 150) (k := bSz b) (g := g10) (x := nI 0) (by rw [f5 _ (by omega), f4 _ (by omega), f3 _ (by omega), f2 _ (by omega), f1 _ (by omega)]; exact b10) hz (by omega)
  have E6 : h6 o = OE o (nI (bSz b)) (if bBig b = true then nI 1 else nI 0) ex := by rw [f6 o (by omega)]; exact E5
  obtain ⟨-, -, -, -, -, -, -, -, -, -, -, z11, -, -⟩ := OE_rd E6
  have W7 : zwI h6 o 2 11 (nI (bSz b + 1)) = some (zup h6 o (OE o (nI (bSz b + 1)) (if bBig b = true then nI 1 else nI 0) ex)) := (OE_wr E6).1 _
  have r7 : zrI (zup h6 o (OE o (nI (bSz b + 1)) (if bBig b = true then nI 1 else nI 0) ex)) o 2 11 = some (nI (bSz b + 1)) := (OE_rd (zup_eq _ _ _)).2.2.2.2.2.2.2.2.2.2.2.1
  have tail : g_Orders_addSpare_105 o (o + 155) (nI (bSz b)) (nI d) h4 = some (nI (bSz b), zup h6 o (OE o (nI (bSz b + 1)) (if bBig b = true then nI 1 else nI 0) ex)) := by
    simp (disch := omega) only [g_Orders_addSpare_105, w5, bind_some', u8, u11, w6, z11, nI_add, W7, r7, nI_subn, Nat.add_sub_cancel]
  have F : ∀ j, j ≠ o → j ≠ o + 2 + bSz b → j ≠ o + 152 → j ≠ o + 153 → j ≠ o + 154 → j ≠ o + 155 → j ≠ o + 307 → (zup h6 o (OE o (nI (bSz b + 1)) (if bBig b = true then nI 1 else nI 0) ex)) j = h j := fun j d0 d1 d2 d3 d4 d5 d6 => by rw [zup_ne d0, f6 j d6, f5 j d5, f4 j d4, f3 j d3, f2 j d2, f1 j d1]
  refine ⟨zup h6 o (OE o (nI (bSz b + 1)) (if bBig b = true then nI 1 else nI 0) ex), ?_, ⟨zup_eq _ _ _, ?_, ⟨g1, ?_, c1⟩, ⟨g2, ?_, c2⟩, fun s hs => ?_, ⟨upd g5 (bSz b) (prt sp 121), ?_, fun s hs => ?_⟩, ⟨upd g6 (bSz b) x1, ?_, fun s hs => ?_⟩, ⟨upd g7 (bSz b) (nI code), ?_, fun s hs => ?_⟩, ⟨upd g8 (bSz b) (nI d), ?_, fun s hs => ?_⟩, fun s hs => ?_, ⟨upd g10 (bSz b) (nI 0), ?_, fun s hs => ?_⟩, ⟨CS, ?_⟩, ?_, a13⟩, fun k hk => F k (by omega) (by omega) (by omega) (by omega) (by omega) (by omega) (by omega)⟩
  · have c : (bSz b < 150) = True := eq_true hz
    rcases hx with ⟨rfl, rfl⟩ | ⟨s, hs, rfl, rfl⟩
    · have n0 : ((-1 : Int32) < 0) = True := eq_true (by decide)
      simp (disch := omega) only [m_Orders_addSpare, r11, bind_some', nI_lt_iff, c, if_true, r10, r2, eR, w1, p3, p11, p10, eP, w2, q4, q11, w3, s5, s11, w4, t6, t11, n0]
      exact tail
    · have c2 : (bSz b ≤ s) = False := eq_false (by omega)
      have eD : zaI h4 (o + 155) (nI s) = some (nI (bDp b s)) := by rw [zaI, zA32_of b8' (by omega) (by omega), c8 s hs]
      simp (disch := omega) only [m_Orders_addSpare, r11, bind_some', nI_lt_iff, c, if_true, r10, r2, eR, w1, p3, p11, p10, eP, w2, q4, q11, w3, s5, s11, w4, t6, t11, nI_lt0, if_false, nI_le_iff, c2, eD, nI_add]
      exact tail
  · rw [F _ (by omega) (by omega) (by omega) (by omega) (by omega) (by omega) (by omega)]; exact a1
  · rw [F _ (by omega) (by omega) (by omega) (by omega) (by omega) (by omega) (by omega)]; exact b1
  · rw [F _ (by omega) (by omega) (by omega) (by omega) (by omega) (by omega) (by omega)]; exact b2
  · by_cases e : s = bSz b
    · subst e
      exact ⟨sp, by rw [zup_ne (by omega), f6 _ (by omega), f5 _ (by omega), f4 _ (by omega), f3 _ (by omega), f2 _ (by omega)]; exact v1, a13, fun _ => (xU_eq (X := bG b) (n := bSz b) (x := sp)).symm⟩
    · obtain ⟨f, x, y, z⟩ := a4 s hs
      refine ⟨f, by rw [F _ (by omega) (by omega) (by omega) (by omega) (by omega) (by omega) (by omega)]; exact x, y, fun l => ?_⟩
      have l : s < bSz b + 1 := l
      exact (z (by omega)).trans (xU_ne (X := bG b) (x := sp) e).symm
  · rw [zup_ne (by omega), f6 _ (by omega), f5 _ (by omega), f4 _ (by omega), f3 _ (by omega)]; exact v2
  · have l : s < bSz b + 1 := hs
    show _ = prt (xU (bG b) (bSz b) sp s) 121
    by_cases e : s = bSz b
    · rw [e, upd_eq, xU_eq]
    · rw [upd_ne e, xU_ne e]; exact c5 s (by omega)
  · rw [zup_ne (by omega), f6 _ (by omega), f5 _ (by omega), f4 _ (by omega)]; exact v3
  · have l : s < bSz b + 1 := hs
    show _ = xU (bAh b) (bSz b) x1 s
    by_cases e : s = bSz b
    · rw [e, upd_eq, xU_eq]
    · rw [upd_ne e, xU_ne e]; exact c6 s (by omega)
  · rw [zup_ne (by omega), f6 _ (by omega), f5 _ (by omega)]; exact v4
  · have l : s < bSz b + 1 := hs
    show _ = xU (bCd b) (bSz b) (nI code) s
    by_cases e : s = bSz b
    · rw [e, upd_eq, xU_eq]
    · rw [upd_ne e, xU_ne e]; exact c7 s (by omega)
  · rw [zup_ne (by omega), f6 _ (by omega)]; exact v5
  · have l : s < bSz b + 1 := hs
    show _ = nI (xU (bDp b) (bSz b) d s)
    by_cases e : s = bSz b
    · rw [e, upd_eq, xU_eq]
    · rw [upd_ne e, xU_ne e]; exact c8 s (by omega)
  · obtain ⟨f, x, y⟩ := a9 s hs
    refine ⟨f, by rw [F _ (by omega) (by omega) (by omega) (by omega) (by omega) (by omega) (by omega)]; exact x, fun l k hk => ?_⟩
    have l : s < bSz b + 1 := l
    have hk : k < xU (bNs b) (bSz b) 0 s := hk
    by_cases e : s = bSz b
    · rw [e, xU_eq] at hk; omega
    · rw [xU_ne e] at hk; exact y (by omega) k hk
  · rw [zup_ne (by omega)]; exact v6
  · have l : s < bSz b + 1 := hs
    show _ = nI (xU (bNs b) (bSz b) 0 s)
    by_cases e : s = bSz b
    · rw [e, upd_eq, xU_eq]
    · rw [upd_ne e, xU_ne e]; exact c10 s (by omega)
  · rw [F _ (by omega) (by omega) (by omega) (by omega) (by omega) (by omega) (by omega)]; exact a11
  · rw [F _ (by omega) (by omega) (by omega) (by omega) (by omega) (by omega) (by omega)]; exact a12
theorem s_mark (O : ORB o kd b sp ex h) (h150 : bSz b = 150) (x1 : Int32) (x2 : Int32) : ∃ h', m_Orders_addSpare o x1 x2 h = some (-1, h') ∧ ORB o kd (bMark b) sp ex h' ∧ ∀ k, k < o ∨ o + 311 ≤ k → h' k = h k := by
  obtain ⟨a0, a1, ⟨g1, b1, c1⟩, ⟨g2, b2, c2⟩, a4, ⟨g5, b5, c5⟩, ⟨g6, b6, c6⟩, ⟨g7, b7, c7⟩, ⟨g8, b8, c8⟩, a9, ⟨g10, b10, c10⟩, ⟨CS, a11⟩, a12, a13⟩ := id O
  obtain ⟨r0, r1, r2, r3, r4, r5, r6, r7, r8, r9, r10, r11, r12, r13⟩ := OE_rd a0
  have W : zwZ h o 2 12 (nI 1) = some (zup h o (OE o (nI (bSz b)) (nI 1) ex)) := (OE_wr a0).2.1 _ (Or.inr rfl)
  have c : (bSz b < 150) = False := eq_false (by omega)
  refine ⟨zup h o (OE o (nI (bSz b)) (nI 1) ex), ?_, ⟨zup_eq _ _ _, by rw [zup_ne (by omega)]; exact a1, ⟨g1, by rw [zup_ne (by omega)]; exact b1, c1⟩, ⟨g2, by rw [zup_ne (by omega)]; exact b2, c2⟩, fun s hs => ?_, ⟨g5, by rw [zup_ne (by omega)]; exact b5, c5⟩, ⟨g6, by rw [zup_ne (by omega)]; exact b6, c6⟩, ⟨g7, by rw [zup_ne (by omega)]; exact b7, c7⟩, ⟨g8, by rw [zup_ne (by omega)]; exact b8, c8⟩, fun s hs => ?_, ⟨g10, by rw [zup_ne (by omega)]; exact b10, c10⟩, ⟨CS, by rw [zup_ne (by omega)]; exact a11⟩, by rw [zup_ne (by omega)]; exact a12, a13⟩, fun k hk => zup_ne (by omega)⟩
  · simp (disch := omega) only [m_Orders_addSpare, r11, bind_some', nI_lt_iff, c, if_false, W]
  · obtain ⟨f, x, y⟩ := a4 s hs
    exact ⟨f, by rw [zup_ne (by omega)]; exact x, y⟩
  · obtain ⟨f, x, y⟩ := a9 s hs
    exact ⟨f, by rw [zup_ne (by omega)]; exact x, y⟩
theorem s_link (O : ORB o kd b sp ex h) (h150 : bSz b ≤ 150) {s t : Nat} (hs : s < bSz b) (ht : t < 1000) (hn : bNs b s < 21) : ∃ h', g_Orders_tryStep_60 o (nI s) (nI t) h = some h' ∧ ORB o kd (bLink b s t) sp ex h' ∧ ∀ k, k < o ∨ o + 311 ≤ k → h' k = h k := by
  obtain ⟨a0, a1, ⟨g1, b1, c1⟩, ⟨g2, b2, c2⟩, a4, ⟨g5, b5, c5⟩, ⟨g6, b6, c6⟩, ⟨g7, b7, c7⟩, ⟨g8, b8, c8⟩, a9, ⟨g10, b10, c10⟩, ⟨CS, a11⟩, a12, a13⟩ := id O
  obtain ⟨r0, r1, r2, r3, r4, r5, r6, r7, r8, r9, r10, r11, r12, r13⟩ := OE_rd a0
  obtain ⟨fs, x9, y9⟩ := a9 s (by omega)
  have eR : zaR 5 h (o + 156) (nI s) = some (o + 157 + s) := zaR_of b2 (by omega) (by omega) (c2 _ (by omega))
  have eN : zaI h (o + 307) (nI s) = some (nI (bNs b s)) := by rw [zaI, zA32_of b10 (by omega) (by omega), c10 s hs]
  obtain ⟨h1, w1, v1, f1⟩ := zS_st (h := h) (a := o + 157 + s) (n := 21) (k := bNs b s) (g := fs) (x := nI t) x9 hn (by omega)
  have E1 : h1 o = OE o (nI (bSz b)) (if bBig b = true then nI 1 else nI 0) ex := by rw [f1 o (by omega)]; exact a0
  obtain ⟨-, -, -, -, -, -, -, -, p8, -, -, -, -, -⟩ := OE_rd E1
  have b10' : h1 (o + 307) = zI32 150 g10 := by rw [f1 _ (by omega)]; exact b10
  have eN' : zaI h1 (o + 307) (nI s) = some (nI (bNs b s)) := by rw [zaI, zA32_of b10' (by omega) (by omega), c10 s hs]
  obtain ⟨h2, w2, v2, f2⟩ := zS_st (h := h1) (a := o + 307) (n := 150) (k := s) (g := g10) (x := nI (bNs b s + 1)) b10' (by omega) (by omega)
  have F : ∀ j, j ≠ o + 157 + s → j ≠ o + 307 → h2 j = h j := fun j d0 d1 => by rw [f2 j d1, f1 j d0]
  have c : (21 ≤ bNs b s) = False := eq_false (by omega)
  refine ⟨h2, ?_, ⟨by rw [F _ (by omega) (by omega)]; exact a0, by rw [F _ (by omega) (by omega)]; exact a1, ⟨g1, by rw [F _ (by omega) (by omega)]; exact b1, c1⟩, ⟨g2, by rw [F _ (by omega) (by omega)]; exact b2, c2⟩, fun u hu => ?_, ⟨g5, by rw [F _ (by omega) (by omega)]; exact b5, c5⟩, ⟨g6, by rw [F _ (by omega) (by omega)]; exact b6, c6⟩, ⟨g7, by rw [F _ (by omega) (by omega)]; exact b7, c7⟩, ⟨g8, by rw [F _ (by omega) (by omega)]; exact b8, c8⟩, fun u hu => ?_, ⟨upd g10 s (nI (bNs b s + 1)), v2, fun u hu => ?_⟩, ⟨CS, by rw [F _ (by omega) (by omega)]; exact a11⟩, by rw [F _ (by omega) (by omega)]; exact a12, a13⟩, fun k hk => F k (by omega) (by omega)⟩
  · simp (disch := omega) only [g_Orders_tryStep_60, nI_eqm1, if_false, r8, bind_some', eN, nI_le_iff, c, r7, eR, w1, p8, eN', nI_add, w2]
  · obtain ⟨f, x, y⟩ := a4 u hu
    exact ⟨f, by rw [F _ (by omega) (by omega)]; exact x, y⟩
  · by_cases e : u = s
    · subst e
      refine ⟨upd fs (bNs b u) (nI t), by rw [f2 _ (by omega)]; exact v1, fun l k hk => ?_⟩
      have hk : k < xU (bNs b) u (bNs b u + 1) u := hk
      rw [xU_eq] at hk
      show _ = nI (xU (bNx b) u (xU (bNx b u) (bNs b u) t) u k)
      rw [xU_eq]
      by_cases e2 : k = bNs b u
      · rw [e2, upd_eq, xU_eq]
      · rw [upd_ne e2, xU_ne e2]; exact y9 l k (by omega)
    · obtain ⟨f, x, y⟩ := a9 u hu
      refine ⟨f, by rw [F _ (by omega) (by omega)]; exact x, fun l k hk => ?_⟩
      have hk : k < xU (bNs b) s (bNs b s + 1) u := hk
      rw [xU_ne e] at hk
      show _ = nI (xU (bNx b) s (xU (bNx b s) (bNs b s) t) u k)
      rw [xU_ne e]
      exact y l k hk
  · have hu : u < bSz b := hu
    show _ = nI (xU (bNs b) s (bNs b s + 1) u)
    by_cases e : u = s
    · rw [e, upd_eq, xU_eq]
    · rw [upd_ne e, xU_ne e]; exact c10 u hu
theorem ORB.sp' (O : ORB o kd b sp ex h) (hg : hi g) : ORB o kd b g ex (zup h (o + 309) (zI32 123 g)) := by
  obtain ⟨a0, a1, ⟨g1, b1, c1⟩, ⟨g2, b2, c2⟩, a4, ⟨g5, b5, c5⟩, ⟨g6, b6, c6⟩, ⟨g7, b7, c7⟩, ⟨g8, b8, c8⟩, a9, ⟨g10, b10, c10⟩, ⟨CS, a11⟩, a12, a13⟩ := O
  refine ⟨by rw [zup_ne (by omega)]; exact a0, by rw [zup_ne (by omega)]; exact a1, ⟨g1, by rw [zup_ne (by omega)]; exact b1, c1⟩, ⟨g2, by rw [zup_ne (by omega)]; exact b2, c2⟩, fun s hs => ?_, ⟨g5, by rw [zup_ne (by omega)]; exact b5, c5⟩, ⟨g6, by rw [zup_ne (by omega)]; exact b6, c6⟩, ⟨g7, by rw [zup_ne (by omega)]; exact b7, c7⟩, ⟨g8, by rw [zup_ne (by omega)]; exact b8, c8⟩, fun s hs => ?_, ⟨g10, by rw [zup_ne (by omega)]; exact b10, c10⟩, ⟨CS, by rw [zup_ne (by omega)]; exact a11⟩, zup_eq _ _ _, hg⟩
  · obtain ⟨f, x, y⟩ := a4 s hs
    exact ⟨f, by rw [zup_ne (by omega)]; exact x, y⟩
  · obtain ⟨f, x, y⟩ := a9 s hs
    exact ⟨f, by rw [zup_ne (by omega)]; exact x, y⟩
theorem s_try (ho : 18 ≤ o) (O : ORB o kd b sp ex h) (K : bOK kd n b) (hb : bBig b = false) (hkd : kd < 9) (H : HU n nw go h) (hn0 : 0 < n) {s sort i : Nat} (hs : s < bSz b) (hso : sort < 4) (hi' : i < 100) (hN : bNs b s < 21) : ∃ h' sp', m_Orders_tryStep o (nI s) (nI sort) (nI i) h = some h' ∧ ORB o kd (bTry kd n nw go b s sort i) sp' ex h' ∧ ∀ k, k < o ∨ o + 311 ≤ k → h' k = h k := by
  obtain ⟨V, -, D⟩ := K.2.2.1 s hs
  have h150 := K.2.1
  have hn := hu_n H
  have hnw : ∀ hh, hh < n → ∀ l, nw hh l ≤ 270 := fun hh b l => hu_nw H b l
  have hiG : hi (bG b s) := V.2.2.2.2.2.2.2.2
  obtain ⟨eR, eG⟩ := O.row hs h150
  obtain ⟨r0, r1, r2, r3, r4, r5, r6, r7, r8, r9, r10, r11, r12, r13⟩ := OE_rd O.1
  have a12 := O.2.2.2.2.2.2.2.2.2.2.2.2.1
  have a13 := O.2.2.2.2.2.2.2.2.2.2.2.2.2
  have w1 : zcpI h (o + 2 + s) (nI 0) (o + 309) (nI 0) (nI 123) = some (zup h (o + 309) (zI32 123 (bG b s))) := by
    rw [zcpI_of eG a12 (by omega) (by omega) (by omega), va_cpy_all hiG a13]
  have r1' : ∀ e, zrR (zup h (o + 309) e) o 2 1 = some (o + 310) := fun e => (zrR_ne (by omega)).trans r1
  have r10' : ∀ e, zrR (zup h (o + 309) e) o 2 10 = some (o + 309) := fun e => (zrR_ne (by omega)).trans r10
  have ap := s_apply (h := h) (a := o + 309) (r := o + 310) (g := bG b s) (c := bDp b s) O.2.1 hkd rfl (by omega) (by omega) H hn0 (by omega) (sort := sort) (by omega) (nI i) V
  have cv3 : ∀ {α : Type} (e : zE) (z : Option α), zcv (zup h (o + 309) e) (o + 310) 3 z = z := fun e z => zcv_of ((zcls_ne (by omega)).trans (zcls_of O.2.1))
  have cvo : ∀ {α : Type} (e : zE) (z : Option α), zcv (zup h (o + 309) e) o 2 z = z := fun e z => OE_cv (sz := nI (bSz b)) (bg := if bBig b = true then nI 1 else nI 0) (ex := ex) (by rw [zup_ne (by omega)]; exact O.1) z
  have O' : ORB o kd b (aStep kd (fmo kd) n nw go sort (nI i) (bG b s)).2 ex (zup h (o + 309) (zI32 123 (aStep kd (fmo kd) n nw go sort (nI i) (bG b s)).2)) := O.sp' (hi.step hn V)
  have fr0 : ∀ k, k < o ∨ o + 311 ≤ k → (zup h (o + 309) (zI32 123 (aStep kd (fmo kd) n nw go sort (nI i) (bG b s)).2)) k = h k := fun k hk => zup_ne (by omega)
  by_cases z : (aStep kd (fmo kd) n nw go sort (nI i) (bG b s)).1 = nI 1
  · have fn := s_fnd O' h150
    unfold bTry
    rw [if_neg (by rw [hb]; simp), if_pos z]
    have bb : bBig b = true ↔ False := by rw [hb]; simp
    rcases ef : fnd (bG b) (aStep kd (fmo kd) n nw go sort (nI i) (bG b s)).2 (bSz b) 0 with _ | t
    · rw [ef] at fn
      have fn : m_Orders_findSpare o (zup h (o + 309) (zI32 123 (aStep kd (fmo kd) n nw go sort (nI i) (bG b s)).2)) = some (-1) := fn
      have e100 : nI 100 * nI sort + nI i = nI (100 * sort + i) := by rw [pk_mul, nI_add]
      dsimp only
      by_cases hz : bSz b < 150
      · rw [if_pos hz]
        obtain ⟨h2, e2, O2, q2⟩ := s_add O' hz (x1 := nI s) (code := 100 * sort + i) (d := bDp b s + 1) (Or.inr ⟨s, hs, rfl, rfl⟩)
        obtain ⟨h3, e3, O3, q3⟩ := s_link (s := s) (t := bSz b) O2 (by show bSz b + 1 ≤ 150; omega) (by show s < bSz b + 1; omega) (by omega) (by show xU (bNs b) (bSz b) 0 s < 21; rw [xU_ne (by omega)]; exact hN)
        refine ⟨h3, _, ?_, O3, fun k hk => (q3 k hk).trans ((q2 k hk).trans (fr0 k hk))⟩
        simp only [m_Orders_tryStep, r2, eR, bind_some', r10, w1, r1', r10', cv3, ap, zb2_some, eq_true z, if_true, cvo, fn, e100, e2, e3]
      · rw [if_neg hz]
        obtain ⟨h2, e2, O2, q2⟩ := s_mark O' (by omega) (nI s) (nI (100 * sort + i))
        refine ⟨h2, _, ?_, O2, fun k hk => (q2 k hk).trans (fr0 k hk)⟩
        simp only [m_Orders_tryStep, r2, eR, bind_some', r10, w1, r1', r10', cv3, ap, zb2_some, eq_true z, if_true, cvo, fn, e100, e2, g_Orders_tryStep_60]
    · rw [ef] at fn
      have fn : m_Orders_findSpare o (zup h (o + 309) (zI32 123 (aStep kd (fmo kd) n nw go sort (nI i) (bG b s)).2)) = some (nI t) := fn
      obtain ⟨-, t2, -⟩ := fnd_some _ _ _ ef
      obtain ⟨h3, e3, O3, q3⟩ := s_link (s := s) (t := t) O' h150 hs (by omega) hN
      refine ⟨h3, _, ?_, O3, fun k hk => (q3 k hk).trans (fr0 k hk)⟩
      simp (disch := omega) only [m_Orders_tryStep, r2, eR, bind_some', r10, w1, r1', r10', cv3, ap, zb2_some, eq_true z, if_true, cvo, fn, nI_eqm1, if_false, e3]
  · rw [bTry_no z]
    refine ⟨_, _, ?_, O', fr0⟩
    simp only [m_Orders_tryStep, r2, eR, bind_some', r10, w1, r1', r10', cv3, ap, zb2_some, eq_false z, if_false]
end OTR
