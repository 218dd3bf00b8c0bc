/-! ALL ORDERS, THE CLASS: all gone through -/
section BF
variable {kd n : Nat} {nw : Nat → Int32 → Nat} {go : Nat → Int32 → Nat → Nat} {b : bT}
theorem bTry_f (K : bOK kd n b) {s sort i : Nat} (hs : s < bSz b) : bNs (bTry kd n nw go b s sort i) s ≤ bNs b s + 1 ∧ (∀ u, u ≠ s → bNs (bTry kd n nw go b s sort i) u = bNs b u) ∧ ∀ u, u < bSz b → bG (bTry kd n nw go b s sort i) u = bG b u := by
  unfold bTry
  by_cases z : bBig b = true
  · rw [if_pos z]
    exact ⟨by omega, fun _ _ => rfl, fun _ _ => rfl⟩
  · rw [if_neg z]
    by_cases e : (aStep kd (fmo kd) n nw go sort (nI i) (bG b s)).1 = nI 1
    · rw [if_pos e]
      rcases ef : fnd (bG b) (aStep kd (fmo kd) n nw go sort (nI i) (bG b s)).2 (bSz b) 0 with _ | t
      · dsimp only
        by_cases hz : bSz b < 150
        · rw [if_pos hz]
          refine ⟨?_, fun u hu => ?_, fun u hu => ?_⟩
          · show xU (xU (bNs b) (bSz b) 0) s (xU (bNs b) (bSz b) 0 s + 1) s ≤ _
            rw [xU_eq, xU_ne (by omega)]
            omega
          · show xU (xU (bNs b) (bSz b) 0) s (xU (bNs b) (bSz b) 0 s + 1) u = _
            rw [xU_ne hu]
            by_cases e2 : u = bSz b
            · rw [e2, xU_eq]; exact (K.2.2.2.2.1 _ (by omega)).symm
            · rw [xU_ne e2]
          · show xU (bG b) (bSz b) _ u = _
            rw [xU_ne (by omega)]
        · rw [if_neg hz]
          exact ⟨by show bNs b s ≤ _; omega, fun _ _ => rfl, fun _ _ => rfl⟩
      · dsimp only
        refine ⟨?_, fun u hu => ?_, fun u hu => rfl⟩
        · show xU (bNs b) s (bNs b s + 1) s ≤ _
          rw [xU_eq]
          omega
        · show xU (bNs b) s (bNs b s + 1) u = _
          rw [xU_ne hu]
    · rw [if_neg e]
      exact ⟨by omega, fun _ _ => rfl, fun _ _ => rfl⟩
theorem bRow_f (n6 : n ≤ 6) (n0 : 0 < n) (hnw : ∀ hh, hh < n → ∀ l, nw hh l ≤ 270) {s sort : Nat} : ∀ (d i : Nat) (b : bT), bOK kd n b → s < bSz b → (∀ u, u ≠ s → bNs (bRow kd n nw go s sort d i b) u = bNs b u) ∧ ∀ u, u < bSz b → bG (bRow kd n nw go s sort d i b) u = bG b u := by
  intro d
  induction d with
  | zero => intro i b K hs; exact ⟨fun _ _ => rfl, fun _ _ => rfl⟩
  | succ d ih =>
    intro i b K hs
    obtain ⟨-, f2, f3⟩ := bTry_f (nw := nw) (go := go) (sort := sort) (i := i) K hs
    obtain ⟨K', z'⟩ := K.try (sort := sort) (i := i) (go := go) hs n6 n0 hnw
    obtain ⟨g2, g3⟩ := ih (i + 1) _ K' (by omega)
    exact ⟨fun u hu => (g2 u hu).trans (f2 u hu), fun u hu => (g3 u (by omega)).trans (f3 u hu)⟩
theorem bRow_out (n6 : n ≤ 6) {s sort : Nat} (hso : sort < 4) (K : bOK kd n b) (hs : s < bSz b) : ∀ (d i : Nat), lim n (bG b s) sort ≤ i → i + d ≤ 100 → bRow kd n nw go s sort d i b = b := by
  obtain ⟨V, -, -⟩ := K.2.2.1 s hs
  intro d
  induction d with
  | zero => intro i _ _; rfl
  | succ d ih =>
    intro i hi hd
    show bRow kd n nw go s sort d (i + 1) (bTry kd n nw go b s sort i) = b
    rw [bTry_no (step_out V n6 hso hi (by omega))]
    exact ih (i + 1) (by omega) (by omega)
end BF
section OEX
variable {o kd n : Nat} {ex : Int32} {nw : Nat → Int32 → Nat} {go : Nat → Int32 → Nat → Nat}
theorem ORB.big {b : bT} {sp : Nat → Int32} {h : zH} (O : ORB o kd b sp ex h) : zrI h o 2 12 = some (if bBig b = true then nI 1 else nI 0) := (OE_rd O.1).2.2.2.2.2.2.2.2.2.2.2.2.1
theorem ORB.cvo {b : bT} {sp : Nat → Int32} {h : zH} (O : ORB o kd b sp ex h) {α : Type} (z : Option α) : zcv h o 2 z = z := OE_cv O.1 z
theorem s_120 (ho : 18 ≤ o) (hkd : kd < 9) (hn0 : 0 < n) {s sort L : Nat} (hso : sort < 4) {gs : Nat → Int32} (hL : L = lim n gs sort) (x3 : Int32) (k60 k97 : (Int32 × zH) → Option zH) : ∀ (d i f : Nat) (b : bT) (sp : Nat → Int32) (h : zH), L - i = d → i ≤ L → d < f → ORB o kd b sp ex h → bOK kd n b → s < bSz b → bG b s = gs → HU n nw go h → (bBig b = true ∨ bNs b s + (L - i) ≤ 21) →
    ∃ h' sp', zloop (g_Orders_explore_120 o (nI s) x3 (nI sort) (nI L) k60 k97) f (nI i, h) = k97 (nI (sort + 1), h') ∧ ORB o kd (bRow kd n nw go s sort (8 - i) i b) sp' ex h' ∧ bNs (bRow kd n nw go s sort (8 - i) i b) s ≤ bNs b s + (L - i) ∧ ∀ k, k < o ∨ o + 311 ≤ k → h' k = h k := by
  intro d
  induction d with
  | zero =>
    intro i f b sp h hd hi hf O K hs eg H hN
    have n6 := hu_n H
    obtain ⟨f, rfl⟩ : ∃ k, f = k + 1 := ⟨f - 1, by omega⟩
    have L8 : L ≤ 8 := by rw [hL, ← eg]; exact lim_8 (K.2.2.1 s hs).1 n6 sort
    have out := bRow_out (nw := nw) (go := go) n6 hso K hs (8 - i) i (by rw [eg, ← hL]; omega) (by omega)
    have c : (L ≤ i) = True := eq_true (by omega)
    refine ⟨h, sp, ?_, by rw [out]; exact O, by rw [out]; omega, fun _ _ => rfl⟩
    show g_Orders_explore_120 o (nI s) x3 (nI sort) (nI L) k60 k97 _ (nI i, h) = _
    simp (disch := omega) only [g_Orders_explore_120, nI_le_iff, c, if_true, nI_add]
  | succ d ih =>
    intro i f b sp h hd hi hf O K hs eg H hN
    have n6 := hu_n H
    have hnw : ∀ hh, hh < n → ∀ l, nw hh l ≤ 270 := fun hh b l => hu_nw H b l
    obtain ⟨f, rfl⟩ : ∃ k, f = k + 1 := ⟨f - 1, by omega⟩
    have L8 : L ≤ 8 := by rw [hL, ← eg]; exact lim_8 (K.2.2.1 s hs).1 n6 sort
    have c : (L ≤ i) = False := eq_false (by omega)
    have eb := O.big
    by_cases z : bBig b = true
    · rw [if_pos z] at eb
      refine ⟨h, sp, ?_, by rw [bRow_big _ _ _ z]; exact O, by rw [bRow_big _ _ _ z]; omega, fun _ _ => rfl⟩
      show g_Orders_explore_120 o (nI s) x3 (nI sort) (nI L) k60 k97 _ (nI i, h) = _
      have n1 := nI1_0
      simp (disch := omega) only [g_Orders_explore_120, nI_le_iff, c, if_false, eb, bind_some', n1, nI_add]
    · rw [if_neg z] at eb
      have hN := hN.resolve_left z
      obtain ⟨h1, sp1, e1, O1, q1⟩ := s_try (ex := ex) (nw := nw) (go := go) (n := n) (sort := sort) (i := i) ho O K (by simpa using z) hkd H hn0 hs hso (by omega) (by omega)
      obtain ⟨K', z'⟩ := K.try (sort := sort) (i := i) (go := go) hs n6 hn0 hnw
      obtain ⟨f1, f2, f3⟩ := bTry_f (nw := nw) (go := go) (sort := sort) (i := i) K hs
      obtain ⟨h2, sp2, e2, O2, l2, q2⟩ := ih (i + 1) f (bTry kd n nw go b s sort i) sp1 h1 (by omega) (by omega) (by omega) O1 K' (by omega) ((f3 s hs).trans eg) (H.fr fun k a b => q1 k (by omega)) (Or.inr (by omega))
      have er : bRow kd n nw go s sort (8 - i) i b = bRow kd n nw go s sort (8 - (i + 1)) (i + 1) (bTry kd n nw go b s sort i) := by
        rw [show 8 - i = (8 - (i + 1)) + 1 by omega]
        rfl
      refine ⟨h2, sp2, ?_, by rw [er]; exact O2, by rw [er]; omega, fun k hk => (q2 k hk).trans (q1 k hk)⟩
      rw [← e2]
      show g_Orders_explore_120 o (nI s) x3 (nI sort) (nI L) k60 k97 (zloop _ f) (nI i, h) = _
      simp (disch := omega) only [g_Orders_explore_120, nI_le_iff, c, if_false, eb, bind_some', nI0_0, if_true, O.cvo, e1, nI_add]
theorem s_num {b : bT} {sp : Nat → Int32} {h : zH} (O : ORB o kd b sp ex h) (K : bOK kd n b) (H : HU n nw go h) {s sort : Nat} (hs : s < bSz b) (hso : sort < 4) : m_Orders_numbersOf o (o + 2 + s) (nI sort) h = some (nI (lim n (bG b s) sort)) := by
  obtain ⟨⟨w, w8, hw, -⟩, ⟨k, k8, hk, -⟩, -⟩ := (K.2.2.1 s hs).1
  obtain ⟨-, eG⟩ := O.row hs K.2.1
  obtain ⟨r0, -⟩ := OE_rd O.1
  have cv2 : ∀ {α : Type} (z : Option α), zcv h 2 1 z = z := fun z => zcv_of (H h (fun _ _ _ => rfl)).2.1
  have sz := (H h (fun _ _ _ => rfl)).2.2.2.1
  have e18 : zaI h (o + 2 + s) (nI 18) = some (nI w) := by rw [zaI, zA32_of eG (by omega) (by omega), hw]
  have e43 : zaI h (o + 2 + s) (nI 43) = some (nI k) := by rw [zaI, zA32_of eG (by omega) (by omega), hk]
  rcases (show sort = 0 ∨ sort = 1 ∨ sort = 2 ∨ sort = 3 by omega) with rfl | rfl | rfl | rfl
  · simp (disch := omega) only [m_Orders_numbersOf, if_true, r0, bind_some', cv2, sz]
    rfl
  · have c : (1 = 0) = False := by simp
    simp (disch := omega) only [m_Orders_numbersOf, nI_eq_iff, c, if_false, if_true, e18, bind_some']
    show some (nI w) = some (nI (cnt (bG b s) 18))
    rw [cnt_nI hw (by omega)]
  · have c : (2 = 0) = False := by simp
    have c2 : (2 = 1) = False := by simp
    simp (disch := omega) only [m_Orders_numbersOf, nI_eq_iff, c, c2, if_false, if_true, e43, bind_some']
    show some (nI k) = some (nI (cnt (bG b s) 43))
    rw [cnt_nI hk (by omega)]
  · have c : (3 = 0) = False := by simp
    have c2 : (3 = 1) = False := by simp
    have c3 : (3 = 2) = False := by simp
    simp (disch := omega) only [m_Orders_numbersOf, nI_eq_iff, c, c2, c3, if_false]
    rfl
theorem s_97 (ho : 18 ≤ o) (hkd : kd < 9) (hn0 : 0 < n) {s sort : Nat} (hso : sort < 4) (k60 : (Int32 × zH) → Option zH) (f : Nat) {b : bT} {sp : Nat → Int32} {h : zH} (O : ORB o kd b sp ex h) (K : bOK kd n b) (hs : s < bSz b) (H : HU n nw go h) (hN : bBig b = true ∨ bNs b s + lim n (bG b s) sort ≤ 21) :
    ∃ h' sp', zloop (g_Orders_explore_97 o (nI s) (nI 3) k60) (f + 1) (nI sort, h) = zloop (g_Orders_explore_97 o (nI s) (nI 3) k60) f (nI (sort + 1), h') ∧ ORB o kd (bRow kd n nw go s sort 8 0 b) sp' ex h' ∧ bNs (bRow kd n nw go s sort 8 0 b) s ≤ bNs b s + lim n (bG b s) sort ∧ ∀ k, k < o ∨ o + 311 ≤ k → h' k = h k := by
  have z := zN_big
  have n6 := hu_n H
  have L8 : lim n (bG b s) sort ≤ 8 := lim_8 (K.2.2.1 s hs).1 n6 sort
  obtain ⟨eR, -⟩ := O.row hs K.2.1
  obtain ⟨-, -, r2, -⟩ := OE_rd O.1
  have en := s_num O K H hs hso
  obtain ⟨h1, sp1, e1, O1, l1, q1⟩ := s_120 (ex := ex) (nw := nw) (go := go) ho hkd hn0 hso (rfl : lim n (bG b s) sort = lim n (bG b s) sort) (nI 3) k60 (zloop (g_Orders_explore_97 o (nI s) (nI 3) k60) f) (lim n (bG b s) sort) 0 zN b sp h rfl (by omega) (by omega) O K hs rfl H hN
  refine ⟨h1, sp1, ?_, O1, l1, q1⟩
  rw [← e1]
  show g_Orders_explore_97 o (nI s) (nI 3) k60 (zloop _ f) (nI sort, h) = _
  have c : (3 < sort) = False := eq_false (by omega)
  simp (disch := omega) only [g_Orders_explore_97, nI_lt_iff, c, if_false, r2, bind_some', eR, O.cvo, en]
theorem lim_sum {gs : Nat → Int32} {c : Nat} (V : IV (fmo kd) n c 0 gs) (n4 : n ≤ 4) : lim n gs 0 + lim n gs 1 + lim n gs 2 + lim n gs 3 ≤ 21 := by
  obtain ⟨⟨w, w8, hw, -⟩, ⟨k, k8, hk, -⟩, -⟩ := V
  have e1 : lim n gs 1 = w := cnt_nI hw (by omega)
  have e2 : lim n gs 2 = k := cnt_nI hk (by omega)
  have e0 : lim n gs 0 = n := rfl
  have e3 : lim n gs 3 = 1 := rfl
  omega
theorem s_exp (ho : 18 ≤ o) (hkd : kd < 9) (hn0 : 0 < n) {s : Nat} (k60 : (Int32 × zH) → Option zH) {b : bT} {sp : Nat → Int32} {h : zH} (O : ORB o kd b sp ex h) (K : bOK kd n b) (hs : s < bSz b) (H : HU n nw go h) (hb : bBig b = true ∨ n ≤ 4) (hN : bNs b s = 0) :
    ∃ h' sp', zloop (g_Orders_explore_97 o (nI s) (nI 3) k60) zN (nI 0, h) = k60 (nI (s + 1), h') ∧ ORB o kd (bExp kd n nw go b s) sp' ex h' ∧ (∀ u, u ≠ s → bNs (bExp kd n nw go b s) u = bNs b u) ∧ ∀ k, k < o ∨ o + 311 ≤ k → h' k = h k := by
  have n6 := hu_n H
  have hnw : ∀ hh, hh < n → ∀ l, nw hh l ≤ 270 := fun hh b l => hu_nw H b l
  obtain ⟨V, -, -⟩ := K.2.2.1 s hs
  have big : ∀ {b' : bT} (d i sort : Nat), bBig b' = true → bBig (bRow kd n nw go s sort d i b') = true := fun d i sort e => by rw [bRow_big _ _ _ e]; exact e
  obtain ⟨m, hm⟩ : ∃ m, zN = m + 5 := ⟨zN - 5, by have := zN_big; omega⟩
  rw [hm]
  have ls : n ≤ 4 → lim n (bG b s) 0 + lim n (bG b s) 1 + lim n (bG b s) 2 + lim n (bG b s) 3 ≤ 21 := fun n4 => lim_sum V n4
  obtain ⟨h1, p1, e1, O1, l1, q1⟩ := s_97 (nw := nw) (go := go) (s := s) ho hkd hn0 (show 0 < 4 by omega) k60 (m + 4) O K hs H (hb.imp_right fun n4 => by have := ls n4; omega)
  obtain ⟨K1, z1⟩ := bOK.row (go := go) n6 hn0 hnw (s := s) (sort := 0) 8 0 b K hs
  obtain ⟨f1, g1⟩ := bRow_f (go := go) n6 hn0 hnw (s := s) (sort := 0) 8 0 b K hs
  have H1 : HU n nw go h1 := H.fr fun k a b => q1 k (by omega)
  have G1 := g1 s hs
  obtain ⟨h2, p2, e2, O2, l2, q2⟩ := s_97 (nw := nw) (go := go) (s := s) ho hkd hn0 (show 1 < 4 by omega) k60 (m + 3) O1 K1 (by omega) H1 (hb.imp (big 8 0 0) fun n4 => by have := ls n4; rw [G1]; omega)
  obtain ⟨K2, z2⟩ := bOK.row (go := go) n6 hn0 hnw (s := s) (sort := 1) 8 0 _ K1 (by omega)
  obtain ⟨f2, g2⟩ := bRow_f (go := go) n6 hn0 hnw (s := s) (sort := 1) 8 0 _ K1 (by omega)
  have H2 : HU n nw go h2 := H1.fr fun k a b => q2 k (by omega)
  have G2 := (g2 s (by omega)).trans G1
  rw [G1] at l2
  obtain ⟨h3, p3, e3, O3, l3, q3⟩ := s_97 (nw := nw) (go := go) (s := s) ho hkd hn0 (show 2 < 4 by omega) k60 (m + 2) O2 K2 (by omega) H2 (hb.imp (fun e => big 8 0 1 (big 8 0 0 e)) fun n4 => by have := ls n4; rw [G2]; omega)
  obtain ⟨K3, z3⟩ := bOK.row (go := go) n6 hn0 hnw (s := s) (sort := 2) 8 0 _ K2 (by omega)
  obtain ⟨f3, g3⟩ := bRow_f (go := go) n6 hn0 hnw (s := s) (sort := 2) 8 0 _ K2 (by omega)
  have H3 : HU n nw go h3 := H2.fr fun k a b => q3 k (by omega)
  have G3 := (g3 s (by omega)).trans G2
  rw [G2] at l3
  obtain ⟨h4, p4, e4, O4, l4, q4⟩ := s_97 (nw := nw) (go := go) (s := s) ho hkd hn0 (show 3 < 4 by omega) k60 (m + 1) O3 K3 (by omega) H3 (hb.imp (fun e => big 8 0 2 (big 8 0 1 (big 8 0 0 e))) fun n4 => by have := ls n4; rw [G3]; omega)
  obtain ⟨f4, -⟩ := bRow_f (go := go) n6 hn0 hnw (s := s) (sort := 3) 8 0 _ K3 (by omega)
  refine ⟨h4, p4, ?_, O4, fun u hu => (f4 u hu).trans ((f3 u hu).trans ((f2 u hu).trans (f1 u hu))), fun k hk => (q4 k hk).trans ((q3 k hk).trans ((q2 k hk).trans (q1 k hk)))⟩
  rw [e1, e2, e3, e4]
  show g_Orders_explore_97 o (nI s) (nI 3) k60 _ (nI 4, h4) = _
  have c : (3 < 4) = True := by simp
  simp (disch := omega) only [g_Orders_explore_97, nI_lt_iff, c, if_true, nI_add]
theorem s_60 (ho : 18 ≤ o) (hkd : kd < 9) (hn0 : 0 < n) : ∀ (d s f : Nat) (b : bT) (sp : Nat → Int32) (h : zH), 150 - s = d → s ≤ 150 → d < f → ORB o kd b sp ex h → bOK kd n b → HU n nw go h → (bBig b = true ∨ n ≤ 4) → (∀ u, s ≤ u → bNs b u = 0) →
    ∃ h' sp', zloop (g_Orders_explore_60 o) f (nI s, h) = some h' ∧ ORB o kd (bRun kd n nw go d s b) sp' ex h' ∧ ∀ k, k < o ∨ o + 311 ≤ k → h' k = h k := by
  intro d
  induction d with
  | zero =>
    intro s f b sp h hd hs hf O K H hb hN
    obtain ⟨f, rfl⟩ : ∃ k, f = k + 1 := ⟨f - 1, by omega⟩
    have h150 := K.2.1
    obtain ⟨-, -, -, -, -, -, -, -, -, -, -, r11, -, -⟩ := OE_rd O.1
    refine ⟨h, sp, ?_, O, fun _ _ => rfl⟩
    show g_Orders_explore_60 o _ (nI s, h) = _
    have c : (bSz b ≤ s) = True := eq_true (by omega)
    simp (disch := omega) only [g_Orders_explore_60, r11, bind_some', nI_le_iff, c, if_true]
  | succ d ih =>
    intro s f b sp h hd hs hf O K H hb hN
    obtain ⟨f, rfl⟩ : ∃ k, f = k + 1 := ⟨f - 1, by omega⟩
    have h150 := K.2.1
    have n6 := hu_n H
    have hnw : ∀ hh, hh < n → ∀ l, nw hh l ≤ 270 := fun hh b l => hu_nw H b l
    obtain ⟨-, -, r2, -, -, -, -, -, -, -, -, r11, -, -⟩ := OE_rd O.1
    by_cases c : s < bSz b
    · obtain ⟨eR, eG⟩ := O.row c h150
      have e120 : zaI h (o + 2 + s) (nI 120) = some (bG b s 120) := zA32_of eG (by omega) (by omega)
      have c1 : (bSz b ≤ s) = False := eq_false (by omega)
      have c2 : (150 ≤ s) = False := eq_false (by omega)
      have er : bRun kd n nw go (d + 1) s b = bRun kd n nw go d (s + 1) (if bG b s 120 = nI 1 then b else bExp kd n nw go b s) := if_pos c
      by_cases z : bG b s 120 = nI 1
      · rw [if_pos z] at er
        obtain ⟨h2, p2, e2, O2, q2⟩ := ih (s + 1) f b sp h (by omega) (by omega) (by omega) O K H hb (fun u hu => hN u (by omega))
        refine ⟨h2, p2, ?_, by rw [er]; exact O2, q2⟩
        rw [← e2]
        show g_Orders_explore_60 o (zloop (g_Orders_explore_60 o) f) (nI s, h) = _
        simp (disch := omega) only [g_Orders_explore_60, r11, bind_some', nI_le_iff, c1, c2, if_false, r2, eR, e120, eq_true z, if_true]
        obtain ⟨m, hm⟩ : ∃ m, zN = m + 1 := ⟨zN - 1, by have := zN_big; omega⟩
        rw [hm]
        show g_Orders_explore_97 o (nI s) (-1) _ _ (nI 0, h) = _
        have c3 : ((-1 : Int32) < nI 0) = True := eq_true (by decide)
        simp (disch := omega) only [g_Orders_explore_97, c3, if_true, nI_add]
      · rw [if_neg z] at er
        obtain ⟨h1, p1, e1, O1, f1, q1⟩ := s_exp (nw := nw) (go := go) ho hkd hn0 (zloop (g_Orders_explore_60 o) f) O K c H hb (hN s (by omega))
        obtain ⟨K1, z1⟩ := bOK.exp (go := go) (s := s) n6 hn0 hnw K c
        obtain ⟨h2, p2, e2, O2, q2⟩ := ih (s + 1) f (bExp kd n nw go b s) p1 h1 (by omega) (by omega) (by omega) O1 K1 (H.fr fun k a b => q1 k (by omega)) (hb.imp_left fun e => by rw [bExp_big e]; exact e) (fun u hu => (f1 u (by omega)).trans (hN u (by omega)))
        refine ⟨h2, p2, ?_, by rw [er]; exact O2, fun k hk => (q2 k hk).trans (q1 k hk)⟩
        rw [← e2, ← e1]
        show g_Orders_explore_60 o (zloop (g_Orders_explore_60 o) f) (nI s, h) = _
        simp (disch := omega) only [g_Orders_explore_60, r11, bind_some', nI_le_iff, c1, c2, if_false, r2, eR, e120, eq_false z]
    · have er : bRun kd n nw go (d + 1) s b = b := if_neg c
      refine ⟨h, sp, ?_, by rw [er]; exact O, fun _ _ => rfl⟩
      show g_Orders_explore_60 o _ (nI s, h) = _
      have c : (bSz b ≤ s) = True := eq_true (by omega)
      simp (disch := omega) only [g_Orders_explore_60, r11, bind_some', nI_le_iff, c, if_true]
theorem ORB.nil {b b' : bT} {sp : Nat → Int32} {ex' : Int32} {h : zH} (O : ORB o kd b sp ex h) (e : bSz b' = 0) : ORB o kd b' sp ex' (zup h o (OE o (nI 0) (if bBig b' = true then nI 1 else nI 0) ex')) := by
  obtain ⟨a0, a1, ⟨g1, b1, c1⟩, ⟨g2, b2, c2⟩, a4, ⟨g5, b5, c5⟩, ⟨g6, b6, c6⟩, ⟨g7, b7, c7⟩, ⟨g8, b8, c8⟩, a9, ⟨g10, b10, c10⟩, ⟨CS, a11⟩, a12, a13⟩ := O
  refine ⟨by rw [zup_eq, e], by rw [zup_ne (by omega)]; exact a1, ⟨g1, by rw [zup_ne (by omega)]; exact b1, c1⟩, ⟨g2, by rw [zup_ne (by omega)]; exact b2, c2⟩, fun s hs => ?_, ⟨g5, by rw [zup_ne (by omega)]; exact b5, fun s hs => by omega⟩, ⟨g6, by rw [zup_ne (by omega)]; exact b6, fun s hs => by omega⟩, ⟨g7, by rw [zup_ne (by omega)]; exact b7, fun s hs => by omega⟩, ⟨g8, by rw [zup_ne (by omega)]; exact b8, fun s hs => by omega⟩, fun s hs => ?_, ⟨g10, by rw [zup_ne (by omega)]; exact b10, fun s hs => by omega⟩, ⟨CS, by rw [zup_ne (by omega)]; exact a11⟩, by rw [zup_ne (by omega)]; exact a12, a13⟩
  · obtain ⟨f, x, y, -⟩ := a4 s hs
    exact ⟨f, by rw [zup_ne (by omega)]; exact x, y, fun l => by omega⟩
  · obtain ⟨f, x, -⟩ := a9 s hs
    exact ⟨f, by rw [zup_ne (by omega)]; exact x, fun l => by omega⟩
theorem ORB.kd' {kd' : Nat} {b : bT} {sp g : Nat → Int32} {h : zH} (O : ORB o kd b sp ex h) (hg : hi g) : ORB o kd' b g ex (zup (zup h (o + 310) (ruE kd' (fmo kd'))) (o + 309) (zI32 123 g)) := by
  obtain ⟨a0, a1, ⟨g1, b1, c1⟩, ⟨g2, b2, c2⟩, a4, ⟨g5, b5, c5⟩, ⟨g6, b6, c6⟩, ⟨g7, b7, c7⟩, ⟨g8, b8, c8⟩, a9, ⟨g10, b10, c10⟩, ⟨CS, a11⟩, a12, a13⟩ := O
  refine ⟨by rw [zup_ne (by omega), zup_ne (by omega)]; exact a0, by rw [zup_ne (by omega), zup_eq], ⟨g1, by rw [zup_ne (by omega), zup_ne (by omega)]; exact b1, c1⟩, ⟨g2, by rw [zup_ne (by omega), zup_ne (by omega)]; exact b2, c2⟩, fun s hs => ?_, ⟨g5, by rw [zup_ne (by omega), zup_ne (by omega)]; exact b5, c5⟩, ⟨g6, by rw [zup_ne (by omega), zup_ne (by omega)]; exact b6, c6⟩, ⟨g7, by rw [zup_ne (by omega), zup_ne (by omega)]; exact b7, c7⟩, ⟨g8, by rw [zup_ne (by omega), zup_ne (by omega)]; exact b8, c8⟩, fun s hs => ?_, ⟨g10, by rw [zup_ne (by omega), zup_ne (by omega)]; exact b10, c10⟩, ⟨CS, by rw [zup_ne (by omega), zup_ne (by omega)]; exact a11⟩, zup_eq _ _ _, hg⟩
  · obtain ⟨f, x, y⟩ := a4 s hs
    exact ⟨f, by rw [zup_ne (by omega), zup_ne (by omega)]; exact x, y⟩
  · obtain ⟨f, x, y⟩ := a9 s hs
    exact ⟨f, by rw [zup_ne (by omega), zup_ne (by omega)]; exact x, y⟩
/-- the orders between two calls -/
def cOrd (o n : Nat) (nw : Nat → Int32 → Nat) (go : Nat → Int32 → Nat → Nat) (h : zH) : Prop := ∃ (kd : Nat) (b : bT) (sp : Nat → Int32) (ex : Int32), kd < 9 ∧ ORB o kd b sp ex h ∧ (ex = -1 ∨ (ex = nI kd ∧ b = bfs kd n nw go))
theorem cOrd.fr {h h' : zH} (c : cOrd o n nw go h) (q : ∀ k, o ≤ k → k < o + 311 → h' k = h k) : cOrd o n nw go h' := by
  obtain ⟨kd, b, sp, ex, a, O, e⟩ := c
  exact ⟨kd, b, sp, ex, a, O.fr q, e⟩
theorem s_explore (ho : 18 ≤ o) (hkd : kd < 9) (hn0 : 0 < n) {h : zH} (c : cOrd o n nw go h) (H : HU n nw go h) : ∃ h' sp, m_Orders_explore o (nI kd) h = some h' ∧ ORB o kd (bfs kd n nw go) sp (nI kd) h' ∧ ∀ k, k < o ∨ o + 311 ≤ k → h' k = h k := by
  obtain ⟨kd0, b, sp, ex, kd09, O, e⟩ := c
  obtain ⟨-, -, -, -, -, -, -, -, -, -, -, -, -, r13⟩ := OE_rd O.1
  by_cases z : nI kd = ex
  · have ex1 : ¬ ex = -1 := fun y => by
      rw [← z] at y
      have := nI_eqm1 (a := kd) (by omega)
      rw [y] at this
      simp at this
    obtain ⟨e1, e2⟩ := e.resolve_left ex1
    have ek : kd0 = kd := (nI_eq (by omega) (by omega)).mp (e1.symm.trans z.symm)
    subst ek
    refine ⟨h, sp, ?_, by rw [← e2, z]; exact O, fun _ _ => rfl⟩
    simp only [m_Orders_explore, r13, bind_some', eq_true z, if_true]
  · have zz := zN_big
    obtain ⟨w11, w12, w13⟩ := OE_wr O.1
    have A1 : zwI h o 2 13 (nI kd) = some (zup h o (OE o (nI (bSz b)) (if bBig b = true then nI 1 else nI 0) (nI kd))) := w13 _
    have A2 : zwI (zup h o (OE o (nI (bSz b)) (if bBig b = true then nI 1 else nI 0) (nI kd))) o 2 11 (nI 0) = some (zup h o (OE o (nI 0) (if bBig b = true then nI 1 else nI 0) (nI kd))) := by
      rw [(OE_wr (zup_eq _ _ _)).1, zup_zup]
    have r0 : zrR (zup h o (OE o (nI 0) (if bBig b = true then nI 1 else nI 0) (nI kd))) o 2 0 = some 2 := (OE_rd (zup_eq _ _ _)).1
    have sz := hu_size H ho (OE o (nI 0) (if bBig b = true then nI 1 else nI 0) (nI kd))
    have cv2 : ∀ {α : Type} (x : Option α), zcv (zup h o (OE o (nI 0) (if bBig b = true then nI 1 else nI 0) (nI kd))) 2 1 x = x := fun x => hu_zcv H ho _ x
    have n6 := hu_n H
    have hnw : ∀ hh, hh < n → ∀ l, nw hh l ≤ 270 := fun hh b l => hu_nw H b l
    have body : ∀ bg : Bool, bg = decide (4 < n) → ∃ h' sp, g_Orders_explore_36 o (nI kd) o (if bg = true then nI 1 else nI 0) (zup h o (OE o (nI 0) (if bBig b = true then nI 1 else nI 0) (nI kd))) = some h' ∧ ORB o kd (bfs kd n nw go) sp (nI kd) h' ∧ ∀ k, k < o ∨ o + 311 ≤ k → h' k = h k := by
      intro bg ebg
      have A3 : zwZ (zup h o (OE o (nI 0) (if bBig b = true then nI 1 else nI 0) (nI kd))) o 2 12 (if bg = true then nI 1 else nI 0) = some (zup h o (OE o (nI 0) (if bg = true then nI 1 else nI 0) (nI kd))) := by
        rw [(OE_wr (zup_eq _ _ _)).2.1 _ (by cases bg; exact Or.inl nI_0; exact Or.inr rfl), zup_zup]
      have O3 : ORB o kd0 ((0, bG b, bAh b, bCd b, bDp b, bNx b, bNs b, bg) : bT) sp (nI kd) (zup h o (OE o (nI 0) (if bg = true then nI 1 else nI 0) (nI kd))) := O.nil (b' := ((0, bG b, bAh b, bCd b, bDp b, bNx b, bNs b, bg) : bT)) rfl
      generalize e3 : zup h o (OE o (nI 0) (if bg = true then nI 1 else nI 0) (nI kd)) = h3 at A3 O3
      have q3 : ∀ k, k < o ∨ o + 311 ≤ k → h3 k = h k := fun k hk => by rw [← e3, zup_ne (by omega)]
      have H3 : HU n nw go h3 := H.fr fun k a b => q3 k (by omega)
      obtain ⟨-, s1, -, -, -, -, -, -, -, -, s10, -, -, -⟩ := OE_rd O3.1
      have sB : m_Rules_begin (o + 310) (o + 309) (nI kd) h3 = some (zup (zup h3 (o + 310) (ruE kd (fmo kd))) (o + 309) (zI32 123 (g0 (fmo kd)))) := by
        have := s_begin (h := h3) (a := o + 309) (r := o + 310) (kd := kd) (g := sp) O3.2.1 (by omega) hkd O3.2.2.2.2.2.2.2.2.2.2.2.2.2
        rw [zup_self O3.2.2.2.2.2.2.2.2.2.2.2.2.1] at this
        exact this
      have O4 : ORB o kd ((0, bG b, bAh b, bCd b, bDp b, bNx b, bNs b, bg) : bT) (g0 (fmo kd)) (nI kd) (zup (zup h3 (o + 310) (ruE kd (fmo kd))) (o + 309) (zI32 123 (g0 (fmo kd)))) := O3.kd' (fun j hj => g0_hi _ hj)
      have q4 : ∀ k, k < o ∨ o + 311 ≤ k → (zup (zup h3 (o + 310) (ruE kd (fmo kd))) (o + 309) (zI32 123 (g0 (fmo kd)))) k = h k := fun k hk => by rw [zup_ne (by omega), zup_ne (by omega), q3 k hk]
      have cv3 : ∀ {α : Type} (x : Option α), zcv h3 (o + 310) 3 x = x := fun x => zcv_of (zcls_of O3.2.1)
      generalize zup (zup h3 (o + 310) (ruE kd (fmo kd))) (o + 309) (zI32 123 (g0 (fmo kd))) = h4 at sB O4 q4
      obtain ⟨h5, e5, O5, q5⟩ := s_add O4 (by show 0 < 150; omega) (x1 := -1) (code := 0) (d := 0) (Or.inl ⟨rfl, rfl⟩)
      have q5' : ∀ k, k < o ∨ o + 311 ≤ k → h5 k = h k := fun k hk => (q5 k hk).trans (q4 k hk)
      have O6 : ORB o kd (bBeg kd n) (g0 (fmo kd)) (nI kd) h5 := by
        refine O5.cgr rfl ebg.symm fun s hs => ?_
        have hs : s < 1 := hs
        obtain rfl : s = 0 := by omega
        exact ⟨rfl, rfl, rfl, rfl, rfl, fun k hk => absurd hk (Nat.not_lt_zero k)⟩
      obtain ⟨h7, p7, e7, O7, q7⟩ := s_60 (nw := nw) (go := go) ho hkd hn0 150 0 zN (bBeg kd n) (g0 (fmo kd)) h5 rfl (by omega) (by omega) O6 (bOK.beg hn0) (H.fr fun k a b => q5' k (by omega)) (by
        by_cases c : 4 < n
        · exact Or.inl (decide_eq_true c)
        · exact Or.inr (by omega)) (fun _ _ => rfl)
      refine ⟨h7, p7, ?_, O7, fun k hk => (q7 k hk).trans (q5' k hk)⟩
      rw [← e7]
      simp only [g_Orders_explore_36, A3, bind_some', s1, s10, cv3, sB, O4.cvo, e5, zb2_some]
    by_cases c : n ≤ 4
    · obtain ⟨h', sp', e', r⟩ := body false (by simp; omega)
      refine ⟨h', sp', ?_, r⟩
      rw [← e']
      have c1 : (n ≤ 4) = True := eq_true c
      simp (disch := omega) only [m_Orders_explore, r13, bind_some', eq_false z, if_false, A1, A2, r0, cv2, sz, nI_le_iff, c1, if_true]
      rfl
    · obtain ⟨h', sp', e', r⟩ := body true (by simp; omega)
      refine ⟨h', sp', ?_, r⟩
      rw [← e']
      have c1 : (n ≤ 4) = False := eq_false c
      simp (disch := omega) only [m_Orders_explore, r13, bind_some', eq_false z, if_false, A1, A2, r0, cv2, sz, nI_le_iff, c1, if_true]
end OEX
