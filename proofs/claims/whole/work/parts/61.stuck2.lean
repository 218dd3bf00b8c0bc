/-! ALL ORDERS: from which states it can still be said, the model; both -/
section NS21
variable {kd n : Nat} {nw : Nat → Int32 → Nat} {go : Nat → Int32 → Nat → Nat}
theorem bRow_ns (n6 : n ≤ 6) (n0 : 0 < n) (hnw : ∀ hh, hh < n → ∀ l, nw hh l ≤ 270) {s sort : Nat} (hso : sort < 4) {gs : Nat → Int32} : ∀ (d i : Nat) (b : bT), i + d = 8 → bOK kd n b → s < bSz b → bG b s = gs → bNs (bRow kd n nw go s sort d i b) s ≤ bNs b s + (lim n gs sort - i) := by
  intro d
  induction d with
  | zero => intro i b _ K hs _; exact Nat.le_add_right _ _
  | succ d ih =>
    intro i b hd K hs eg
    by_cases c : lim n gs sort ≤ i
    · rw [bRow_out n6 hso K hs (d + 1) i (by rw [eg]; exact c) (by omega)]
      exact Nat.le_add_right _ _
    · obtain ⟨f1, f2, f3⟩ := bTry_f (nw := nw) (go := go) (sort := sort) (i := i) K hs
      obtain ⟨K', z'⟩ := K.try (sort := sort) (i := i) (go := go) hs n6 n0 hnw
      have := ih (i + 1) _ (by omega) K' (by omega) ((f3 s hs).trans eg)
      show bNs (bRow kd n nw go s sort d (i + 1) (bTry kd n nw go b s sort i)) s ≤ _
      omega
theorem bExp_ns (n4 : n ≤ 4) (n0 : 0 < n) (hnw : ∀ hh, hh < n → ∀ l, nw hh l ≤ 270) {s : Nat} {b : bT} (K : bOK kd n b) (hs : s < bSz b) (h0 : bNs b s = 0) : bNs (bExp kd n nw go b s) s ≤ 21 ∧ ∀ u, u ≠ s → bNs (bExp kd n nw go b s) u = bNs b u := by
  have n6 : n ≤ 6 := by omega
  obtain ⟨V, -, -⟩ := K.2.2.1 s hs
  have ls := lim_sum V n4
  obtain ⟨K1, z1⟩ := bOK.row (go := go) n6 n0 hnw (s := s) (sort := 0) 8 0 b K hs
  obtain ⟨f1, g1⟩ := bRow_f (go := go) n6 n0 hnw (s := s) (sort := 0) 8 0 b K hs
  have l1 := bRow_ns (go := go) n6 n0 hnw (s := s) (sort := 0) (by omega) 8 0 b rfl K hs rfl
  have G1 := g1 s hs
  obtain ⟨K2, z2⟩ := bOK.row (go := go) n6 n0 hnw (s := s) (sort := 1) 8 0 _ K1 (by omega)
  obtain ⟨f2, g2⟩ := bRow_f (go := go) n6 n0 hnw (s := s) (sort := 1) 8 0 _ K1 (by omega)
  have l2 := bRow_ns (go := go) n6 n0 hnw (s := s) (sort := 1) (by omega) 8 0 _ rfl K1 (by omega) G1
  have G2 := (g2 s (by omega)).trans G1
  obtain ⟨K3, z3⟩ := bOK.row (go := go) n6 n0 hnw (s := s) (sort := 2) 8 0 _ K2 (by omega)
  obtain ⟨f3, g3⟩ := bRow_f (go := go) n6 n0 hnw (s := s) (sort := 2) 8 0 _ K2 (by omega)
  have l3 := bRow_ns (go := go) n6 n0 hnw (s := s) (sort := 2) (by omega) 8 0 _ rfl K2 (by omega) G2
  have G3 := (g3 s (by omega)).trans G2
  obtain ⟨f4, -⟩ := bRow_f (go := go) n6 n0 hnw (s := s) (sort := 3) 8 0 _ K3 (by omega)
  have l4 := bRow_ns (go := go) n6 n0 hnw (s := s) (sort := 3) (by omega) 8 0 _ rfl K3 (by omega) G3
  refine ⟨?_, fun u hu => (f4 u hu).trans ((f3 u hu).trans ((f2 u hu).trans (f1 u hu)))⟩
  show bNs (bRow kd n nw go s 3 8 0 _) s ≤ 21
  omega
theorem bRun_ns (n4 : n ≤ 4) (n0 : 0 < n) (hnw : ∀ hh, hh < n → ∀ l, nw hh l ≤ 270) : ∀ (f s : Nat) (b : bT), bOK kd n b → (∀ u, bNs b u ≤ 21) → (∀ u, s ≤ u → bNs b u = 0) → ∀ u, bNs (bRun kd n nw go f s b) u ≤ 21 := by
  intro f
  induction f with
  | zero => intro s b K h _; exact h
  | succ f ih =>
    intro s b K h h0
    unfold bRun
    split
    · rename_i hs
      split
      · exact ih (s + 1) b K h (fun u hu => h0 u (by omega))
      · obtain ⟨a, c⟩ := bExp_ns (go := go) n4 n0 hnw K hs (h0 s (Nat.le_refl _))
        refine ih (s + 1) _ (bOK.exp (by omega) n0 hnw K hs).1 (fun u => ?_) (fun u hu => (c u (by omega)).trans (h0 u (by omega)))
        by_cases e : u = s
        · rw [e]; exact a
        · rw [c u e]; exact h u
    · exact h
theorem bfs_ns (n4 : n ≤ 4) (n0 : 0 < n) (hnw : ∀ hh, hh < n → ∀ l, nw hh l ≤ 270) : ∀ u, bNs (bfs kd n nw go) u ≤ 21 := bRun_ns n4 n0 hnw 150 0 _ (bOK.beg n0) (fun _ => Nat.zero_le _) (fun _ _ => rfl)
end NS21
section STM
variable {h : zH} {n kd : Nat} {b : bT} {m0 m r F A B L C0 : Nat → Int32}
def hM (h : zH) (C : Nat → Int32) : zH := zup h 686 (zI1 151 C)
theorem hM_ld {C : Nat → Int32} {k : Nat} (hk : k < 151) : zaZ (hM h C) 686 (nI k) = some (C k) := zA32_ld hk (by omega)
theorem hM_st {C : Nat → Int32} {k : Nat} {x : Nat} (hk : k < 151) (hx : x < 2) : zsZ (hM h C) 686 (nI k) (nI x) = some (hM h (upd C k (nI x))) := by
  have e : vp_nar .boolean (nI x) = nI x := by
    rcases (show x = 0 ∨ x = 1 by omega) with rfl | rfl
    · exact nar_0
    · exact nar_1
  unfold zsZ
  rw [e]
  exact zS32_st hk (by omega)
theorem MOX.hM' (X : MOX m0 n kd b m r F A B C0 L h) (C : Nat → Int32) : MOX m0 n kd b m r F A B C L (hM h C) := by
  obtain ⟨a1, a2, a3, a4, a5, a6, a7, a8, a9, a10, a11, a12⟩ := X
  have q : ∀ k, k ≠ 686 → hM h C k = h k := fun k hk => zup_ne hk
  exact ⟨by rw [q _ (by omega)]; exact a1, a2, a3, a4, by rw [q _ (by omega)]; exact a5, a6, by rw [q _ (by omega)]; exact a7, by rw [q _ (by omega)]; exact a8, by rw [q _ (by omega)]; exact a9, zup_eq _ _ _, by rw [q _ (by omega)]; exact a11, a12⟩
theorem MOX.rd (X : MOX m0 n kd b m r F A B C0 L h) (hb : bBig b = false) (C : Nat → Int32) : zrI (hM h C) 670 7 25 = some (nI (bSz b)) ∧ zrR (hM h C) 670 7 23 = some 686 ∧ zrR (hM h C) 670 7 20 = some 683 ∧ zrR (hM h C) 670 7 24 = some 687 := by
  have X' := X.hM' C
  have ez : mSz b = bSz b := if_neg (by rw [hb]; simp)
  obtain ⟨-, r20, -, -, r23, r24⟩ := Mo_rf X'.1
  exact ⟨by rw [MO_rd _ m (by unfold mosc; omega) X'.1, X'.2.2.2.1, ez], r23, r20, r24⟩
theorem M_78 (X : MOX m0 n kd b m r F A B C0 L h) (K : bOK kd n b) (hb : bBig b = false) {s : Nat} (hs : s < bSz b) (k57 : (Int32 × zH) → Option (Int32 × zH)) (k66 : (Int32 × Int32 × zH) → Option (Int32 × zH)) : ∀ (d t f more : Nat) (C : Nat → Int32), bSz b - t = d → t ≤ bSz b → d < f → more < 2 → INC b C → ∃ C' more', zloop (g_Model_stuck_78 670 (nI s) k57 k66) f (nI more, nI t, hM h C) = k66 (nI more', nI (s + 1), hM h C') ∧ more' < 2 ∧ INC b C' ∧ ((C' = C ∧ more' = more ∧ (C s = nI 1 ∨ ∀ u, t ≤ u → u < bSz b → lnk b s u → C u ≠ nI 1)) ∨ (more' = 1 ∧ zc C' (bSz b) < zc C (bSz b))) := by
  have h150 := K.2.1
  have n1 := nI1_0
  have n0 := nI0_0
  intro d
  induction d with
  | zero =>
    intro t f more C hd ht hf hm I
    obtain ⟨f, rfl⟩ : ∃ k, f = k + 1 := ⟨f - 1, by omega⟩
    obtain ⟨r25, r23, r20, r24⟩ := X.rd hb C
    have c : (bSz b ≤ t) = True := eq_true (by omega)
    refine ⟨C, more, ?_, hm, I, Or.inl ⟨rfl, rfl, Or.inr fun u a b => by omega⟩⟩
    show g_Model_stuck_78 670 (nI s) k57 k66 _ (nI more, nI t, hM h C) = _
    simp (disch := omega) only [g_Model_stuck_78, r25, bind_some', nI_le_iff, c, if_true, nI_add]
  | succ d ih =>
    intro t f more C hd ht hf hm I
    obtain ⟨f, rfl⟩ : ∃ k, f = k + 1 := ⟨f - 1, by omega⟩
    obtain ⟨r25, r23, r20, r24⟩ := X.rd hb C
    have c : (bSz b ≤ t) = False := eq_false (by omega)
    have lS := hM_ld (h := h) (C := C) (k := s) (by omega)
    have lT := hM_ld (h := h) (C := C) (k := t) (by omega)
    have h687 : hM h C 687 = zI1 22801 L := (X.hM' C).2.2.2.2.2.2.2.2.2.2.1
    have lL : zaZ (hM h C) 687 (nI (151 * s + t)) = some (L (151 * s + t)) := zA32_of h687 (by omega) (by omega)
    obtain ⟨-, a13⟩ := X.2.2.2.2.2.2.2.2.2.2.2 hb
    rcases I.1 s hs with e | e
    · rcases a13 s t (by omega) (by omega) with ⟨q, q2⟩ | ⟨q, q2⟩
      · rcases I.1 t (by omega) with e2 | e2
        · obtain ⟨C', more', e', m', I', D⟩ := ih (t + 1) f more C (by omega) (by omega) (by omega) hm I
          refine ⟨C', more', ?_, m', I', D.imp_left fun ⟨x, y, z⟩ => ⟨x, y, z.imp_right fun w u a c l => ?_⟩⟩
          · rw [← e']
            show g_Model_stuck_78 670 (nI s) k57 k66 _ (nI more, nI t, hM h C) = _
            simp (disch := omega) only [g_Model_stuck_78, r25, bind_some', nI_le_iff, c, if_false, r23, lS, e, n0, if_true, r24, pk_mul, nI_add, lL, q2, n1, lT, e2]
          · rcases Nat.lt_or_ge t u with p | p
            · exact w u p c l
            · rw [show u = t by omega, e2]; decide
        · obtain ⟨I2, lt⟩ := I.set hs (show t < bSz b by omega) q e e2
          obtain ⟨C', more', e', m', I', D⟩ := ih (t + 1) f 1 _ (by omega) (by omega) (by omega) (by omega) I2
          refine ⟨C', more', ?_, m', I', Or.inr ?_⟩
          · rw [← e']
            show g_Model_stuck_78 670 (nI s) k57 k66 _ (nI more, nI t, hM h C) = _
            have st := hM_st (h := h) (C := C) (k := s) (x := 1) (by omega) (by omega)
            simp (disch := omega) only [g_Model_stuck_78, r25, bind_some', nI_le_iff, c, if_false, r23, lS, e, n0, if_true, r24, pk_mul, nI_add, lL, q2, n1, lT, e2, st]
          · rcases D with ⟨x, y, -⟩ | ⟨x, y⟩
            · exact ⟨y, by rw [x]; exact lt⟩
            · exact ⟨x, by omega⟩
      · obtain ⟨C', more', e', m', I', D⟩ := ih (t + 1) f more C (by omega) (by omega) (by omega) hm I
        refine ⟨C', more', ?_, m', I', D.imp_left fun ⟨x, y, z⟩ => ⟨x, y, z.imp_right fun w u a c l => ?_⟩⟩
        · rw [← e']
          show g_Model_stuck_78 670 (nI s) k57 k66 _ (nI more, nI t, hM h C) = _
          simp (disch := omega) only [g_Model_stuck_78, r25, bind_some', nI_le_iff, c, if_false, r23, lS, e, n0, if_true, r24, pk_mul, nI_add, lL, q2]
        · rcases Nat.lt_or_ge t u with p | p
          · exact w u p c l
          · rw [show u = t by omega] at l
            exact absurd l q
    · refine ⟨C, more, ?_, hm, I, Or.inl ⟨rfl, rfl, Or.inl e⟩⟩
      show g_Model_stuck_78 670 (nI s) k57 k66 _ (nI more, nI t, hM h C) = _
      simp (disch := omega) only [g_Model_stuck_78, r25, bind_some', nI_le_iff, c, if_false, r23, lS, e, n1, nI_add]
theorem M_66 (X : MOX m0 n kd b m r F A B C0 L h) (K : bOK kd n b) (hb : bBig b = false) (k57 : (Int32 × zH) → Option (Int32 × zH)) : ∀ (d s f more : Nat) (C : Nat → Int32), bSz b - s = d → s ≤ bSz b → d < f → more < 2 → INC b C → ∃ C' more', zloop (g_Model_stuck_66 670 k57) f (nI more, nI s, hM h C) = k57 (nI more', hM h C') ∧ more' < 2 ∧ INC b C' ∧ ((C' = C ∧ more' = more ∧ ∀ u, s ≤ u → u < bSz b → C u = nI 1 ∨ ∀ t, t < bSz b → lnk b u t → C t ≠ nI 1) ∨ (more' = 1 ∧ zc C' (bSz b) < zc C (bSz b))) := by
  have h150 := K.2.1
  have zz := zN_big
  intro d
  induction d with
  | zero =>
    intro s f more C hd hs hf hm I
    obtain ⟨f, rfl⟩ : ∃ k, f = k + 1 := ⟨f - 1, by omega⟩
    obtain ⟨r25, -⟩ := X.rd hb C
    have c : (bSz b ≤ s) = True := eq_true (by omega)
    refine ⟨C, more, ?_, hm, I, Or.inl ⟨rfl, rfl, fun u a b => by omega⟩⟩
    show g_Model_stuck_66 670 k57 _ (nI more, nI s, hM h C) = _
    simp (disch := omega) only [g_Model_stuck_66, r25, bind_some', nI_le_iff, c, if_true]
  | succ d ih =>
    intro s f more C hd hs hf hm I
    obtain ⟨f, rfl⟩ : ∃ k, f = k + 1 := ⟨f - 1, by omega⟩
    obtain ⟨r25, -⟩ := X.rd hb C
    have c : (bSz b ≤ s) = False := eq_false (by omega)
    obtain ⟨C1, m1, e1, l1, I1, D1⟩ := M_78 X K hb (show s < bSz b by omega) k57 (zloop (g_Model_stuck_66 670 k57) f) (bSz b) 0 zN more C rfl (by omega) (by omega) hm I
    obtain ⟨C2, m2, e2, l2, I2, D2⟩ := ih (s + 1) f m1 C1 (by omega) (by omega) (by omega) l1 I1
    refine ⟨C2, m2, ?_, l2, I2, ?_⟩
    · rw [← e2, ← e1]
      show g_Model_stuck_66 670 k57 _ (nI more, nI s, hM h C) = _
      simp (disch := omega) only [g_Model_stuck_66, r25, bind_some', nI_le_iff, c, if_false]
    · rcases D1 with ⟨rfl, rfl, w1⟩ | ⟨rfl, w1⟩
      · rcases D2 with ⟨rfl, rfl, w2⟩ | w2
        · refine Or.inl ⟨rfl, rfl, fun u a b => ?_⟩
          rcases Nat.lt_or_ge s u with q | q
          · exact w2 u q b
          · rw [show u = s by omega]
            exact w1.imp_right fun w t ht => w t (Nat.zero_le _) ht
        · exact Or.inr w2
      · rcases D2 with ⟨rfl, rfl, w2⟩ | ⟨rfl, w2⟩
        · exact Or.inr ⟨rfl, w1⟩
        · exact Or.inr ⟨rfl, by omega⟩
theorem M_57 (X : MOX m0 n kd b m r F A B C0 L h) (K : bOK kd n b) (hb : bBig b = false) : ∀ (z f : Nat) (C : Nat → Int32), zc C (bSz b) ≤ z → z + 2 < f → INC b C → ∃ C', zloop (g_Model_stuck_57 670) f (nI 1, hM h C) = zloop (g_Model_stuck_155 670 (hM h C')) zN (nI 0, nI 0) ∧ INC b C' ∧ clo b C' := by
  have h150 := K.2.1
  have zz := zN_big
  have n1 := nI1_0
  have n0 := nI0_0
  intro z
  induction z with
  | zero =>
    intro f C hz hf I
    obtain ⟨f, rfl⟩ : ∃ k, f = k + 2 := ⟨f - 2, by omega⟩
    obtain ⟨C1, m1, e1, l1, I1, D1⟩ := M_66 X K hb (zloop (g_Model_stuck_57 670) (f + 1)) (bSz b) 0 zN 0 C rfl (by omega) (by omega) (by omega) I
    rcases D1 with ⟨rfl, rfl, w1⟩ | ⟨rfl, w1⟩
    · refine ⟨C1, ?_, I1, fun s hs _ _ _ => zc_0 _ (by omega) s hs⟩
      show g_Model_stuck_57 670 _ (nI 1, hM h C1) = _
      simp only [g_Model_stuck_57, n1, if_false, e1]
      show g_Model_stuck_57 670 _ (nI 0, hM h C1) = _
      simp only [g_Model_stuck_57, n0, if_true]
    · omega
  | succ z ih =>
    intro f C hz hf I
    obtain ⟨f, rfl⟩ : ∃ k, f = k + 2 := ⟨f - 2, by omega⟩
    obtain ⟨C1, m1, e1, l1, I1, D1⟩ := M_66 X K hb (zloop (g_Model_stuck_57 670) (f + 1)) (bSz b) 0 zN 0 C rfl (by omega) (by omega) (by omega) I
    rcases D1 with ⟨rfl, rfl, w1⟩ | ⟨rfl, w1⟩
    · refine ⟨C1, ?_, I1, fun s hs t l ht => ?_⟩
      · show g_Model_stuck_57 670 _ (nI 1, hM h C1) = _
        simp only [g_Model_stuck_57, n1, if_false, e1]
        show g_Model_stuck_57 670 _ (nI 0, hM h C1) = _
        simp only [g_Model_stuck_57, n0, if_true]
      · rcases w1 s (Nat.zero_le _) hs with q | q
        · exact q
        · obtain ⟨k, hk, e⟩ := id l
          have tn := K.2.2.2.1 s hs k hk
          rw [e] at tn
          exact absurd ht (q t tn l)
    · obtain ⟨C2, e2, I2, cl⟩ := ih (f + 1) C1 (by omega) (by omega) I1
      refine ⟨C2, ?_, I2, cl⟩
      rw [← e2, ← e1]
      show g_Model_stuck_57 670 _ (nI 1, hM h C) = _
      simp only [g_Model_stuck_57, n1, if_false]
theorem M_155 (X : MOX m0 n kd b m r F A B C0 L h) (K : bOK kd n b) (hb : bBig b = false) {C : Nat → Int32} (I : INC b C) : ∀ (d j f : Nat), bSz b - j = d → j ≤ bSz b → d < f → zloop (g_Model_stuck_155 670 (hM h C)) f (nI (zc C j), nI j) = some (nI (zc C (bSz b)), hM h C) := by
  have h150 := K.2.1
  have n1 := nI1_0
  have n0 := nI0_0
  obtain ⟨r25, r23, r20, r24⟩ := X.rd hb C
  intro d
  induction d with
  | zero =>
    intro j f hd hj hf
    obtain ⟨f, rfl⟩ : ∃ k, f = k + 1 := ⟨f - 1, by omega⟩
    obtain rfl : j = bSz b := by omega
    show g_Model_stuck_155 670 (hM h C) _ (nI (zc C (bSz b)), nI (bSz b)) = _
    have c : (bSz b ≤ bSz b) = True := eq_true (Nat.le_refl _)
    simp (disch := omega) only [g_Model_stuck_155, r25, bind_some', nI_le_iff, c, if_true]
  | succ d ih =>
    intro j f hd hj hf
    obtain ⟨f, rfl⟩ : ∃ k, f = k + 1 := ⟨f - 1, by omega⟩
    have c : (bSz b ≤ j) = False := eq_false (by omega)
    have lS := hM_ld (h := h) (C := C) (k := j) (by omega)
    rw [← ih (j + 1) f (by omega) (by omega) (by omega)]
    show g_Model_stuck_155 670 (hM h C) _ (nI (zc C j), nI j) = zloop _ f (nI (zc C j + (if C j = nI 1 then 0 else 1)), nI (j + 1))
    rcases I.1 j (by omega) with e | e
    · have e3 : ¬ C j = nI 1 := by rw [e]; decide
      rw [if_neg e3]
      simp (disch := omega) only [g_Model_stuck_155, r25, bind_some', nI_le_iff, c, if_false, r23, lS, e, n0, if_true, nI_add]
    · rw [if_pos e]
      simp (disch := omega) only [g_Model_stuck_155, r25, bind_some', nI_le_iff, c, if_false, r23, lS, e, n1, nI_add]
theorem M_14 (X : MOX m0 n kd b m r F A B C0 L h) (K : bOK kd n b) (hb : bBig b = false) : ∀ (d j f : Nat) (C : Nat → Int32), bSz b - j = d → j ≤ bSz b → d < f → zloop (g_Model_stuck_14 670) f (nI j, hM h C) = zloop (g_Model_stuck_57 670) zN (nI 1, hM h (iniC b j C)) := by
  have h150 := K.2.1
  intro d
  induction d with
  | zero =>
    intro j f C hd hj hf
    obtain ⟨f, rfl⟩ : ∃ k, f = k + 1 := ⟨f - 1, by omega⟩
    obtain ⟨r25, r23, r20, r24⟩ := X.rd hb C
    have e : iniC b j C = C := funext fun s => if_neg (by omega)
    rw [e]
    show g_Model_stuck_14 670 _ (nI j, hM h C) = _
    have c : (bSz b ≤ j) = True := eq_true (by omega)
    simp (disch := omega) only [g_Model_stuck_14, r25, bind_some', nI_le_iff, c, if_true]
  | succ d ih =>
    intro j f C hd hj hf
    obtain ⟨f, rfl⟩ : ∃ k, f = k + 1 := ⟨f - 1, by omega⟩
    obtain ⟨r25, r23, r20, r24⟩ := X.rd hb C
    have c : (bSz b ≤ j) = False := eq_false (by omega)
    obtain ⟨a12, -⟩ := X.2.2.2.2.2.2.2.2.2.2.2 hb
    have h683 : hM h C 683 = zI32 13741 F := (X.hM' C).2.2.2.2.2.2.1
    have lF : zaI (hM h C) 683 (nI (91 * j + 87)) = some (bG b j 120) := by rw [zaI, zA32_of h683 (by omega) (by omega), (a12 j (by omega)).1 87 (by omega), ph_rd pm_c.2.2.2.1]
    rw [← iniC_s (show j < bSz b by omega), ← ih (j + 1) f _ (by omega) (by omega) (by omega)]
    show g_Model_stuck_14 670 _ (nI j, hM h C) = _
    by_cases q : bG b j 120 = nI 1
    · rw [if_pos q]
      have st := hM_st (h := h) (C := C) (k := j) (x := 1) (by omega) (by omega)
      simp (disch := omega) only [g_Model_stuck_14, r25, bind_some', nI_le_iff, c, if_false, r23, r20, pk_mul, nI_add, lF, eq_true q, if_true, st]
    · rw [if_neg q]
      have st := hM_st (h := h) (C := C) (k := j) (x := 0) (by omega) (by omega)
      simp (disch := omega) only [g_Model_stuck_14, r25, bind_some', nI_le_iff, c, if_false, r23, r20, pk_mul, nI_add, lF, eq_false q, st]
theorem M_stuck (M : MOB m0 n kd b h) (K : bOK kd n b) (hb : bBig b = false) : ∃ C' h', zloop (g_Model_stuck_14 670) zN (nI 0, h) = some (nI (zc C' (bSz b)), h') ∧ INC b C' ∧ clo b C' ∧ MOB m0 n kd b h' ∧ FRM h h' := by
  have h150 := K.2.1
  have zz := zN_big
  obtain ⟨m, r, F, A, B, C, L, X⟩ := M
  have eh : hM h C = h := zup_self X.2.2.2.2.2.2.2.2.2.1
  have e2 := M_14 X K hb (bSz b) 0 zN C rfl (by omega) (by omega)
  obtain ⟨C', e3, I, cl⟩ := M_57 X K hb 150 zN (iniC b 0 C) (Nat.le_trans (zc_le _) h150) (by omega) iniC_INC
  have e4 := M_155 X K hb I (bSz b) 0 zN rfl (by omega) (by omega)
  refine ⟨C', hM h C', ?_, I, cl, ⟨m, r, F, A, B, C', L, X.hM' C'⟩, fun k _ _ q => zup_ne (by omega)⟩
  rw [eh] at e2
  rw [e2, e3]
  exact e4
end STM
section STF
variable {h : zH} {n tl w rb ran b : Nat} {X : Nat → Nat → Nat} {Le : Nat → Nat} {Kf : Nat → Int32}
theorem f_stuck (I : INV n X Le tl w rb ran Kf b h) (x : Int32) : ∃ r h1 h2, m_Home_stuck 0 x h = some (r, h1) ∧ m_Model_stuck 670 x h1 = some (r, h2) ∧ INV n X Le tl w rb ran Kf b h2 := by
  have h0 := I.1.1.1
  have cvh := fun {α : Type} (o : Option α) => HO_cv h0 o
  obtain ⟨h1, fr1, B1, O1, O2, D⟩ := f_both I x
  obtain ⟨h01, m1, hm1, -⟩ := id B1.1
  have cvm := fun {α : Type} (o : Option α) => MO_cv h1 m1 hm1 o
  rcases D with ⟨v, h2, c, e1, e2, I2, -⟩ | ⟨t, kd, sp, z, hn, n4, k9, zb, e1, OB, Q⟩
  · exact ⟨v, h1, h2, by simp only [m_Home_stuck, cvh, e1, zb2_some, c, if_false], by simp only [m_Model_stuck, cvm, e2, zb2_some, c, if_false], I2⟩
  · have hnw : ∀ hh, hh < n → ∀ l, nwF X Le hh l ≤ 270 := fun hh q l => hu_nw B1.2.2.1.HU q l
    have KB : bOK kd n (bfs kd n (nwF X Le) (goF X Le)) := bfs_ok (go := goF X Le) (by omega) hn hnw
    obtain ⟨C, g1, IC, cl⟩ := s_stuck OB KB fun u _ => bfs_ns n4 hn hnw u
    have q1 : ∀ k, k ≠ 329 → hC h1 21 C k = h1 k := fun k hk => hC_ne hk
    have OB' := OB.hC' C
    generalize hC h1 21 C = h1' at g1 q1 OB'
    obtain ⟨h2, m, hm, m4, e2, fr2, M, B2⟩ := Q h1' fun k hk => q1 k (by omega)
    obtain ⟨C', h3, g3, IC', cl', M3, fr3⟩ := M_stuck M KB zb
    have ec : zc C (bSz (bfs kd n (nwF X Le) (goF X Le))) = zc C' (bSz (bfs kd n (nwF X Le) (goF X Le))) := zc_cg _ fun s hs => (IC.fin cl hs).trans (IC'.fin cl' hs).symm
    have B1' : BAS n X Le tl w rb ran Kf b h1' := B1.cls fun k hk => q1 k (by omega)
    have cvm' := fun {α : Type} (o : Option α) => MO_cv h1' m hm o
    have q9 := (HO_rd h01).2.2.2.2.2.2.2.2.2.1
    have c1 : ((0 : Int32) ≤ nI 1) = True := by decide
    have c0 : ((0 : Int32) ≤ nI 0) = True := by decide
    refine ⟨nI (zc C (bSz (bfs kd n (nwF X Le) (goF X Le)))), h1', h3, by simp only [m_Home_stuck, cvh, e1, zb2_some, c1, if_true, q9, bind_some', OB.cvo, g1], ?_, B1'.mod hm M3 (fr2.tr fr3), ?_, ?_⟩
    · rw [ec]
      simp only [m_Model_stuck, cvm', e2, zb2_some, c0, if_true, g3]
    · have O1' : cOrd 21 n (nwF X Le) (goF X Le) h1' := ⟨kd, _, sp, _, k9, OB', Or.inr ⟨rfl, rfl⟩⟩
      exact O1'.fr fun k a c => (fr2.tr fr3) k (by omega) (by omega) (by omega)
    · exact O2.fr fun k a c => by rw [(fr2.tr fr3) k (by omega) (by omega) (by omega), q1 k (by omega)]
end STF
