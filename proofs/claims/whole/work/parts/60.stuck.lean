/-! ALL ORDERS, BOTH SIDES: from which states it can still be said -/
def RCH (b : bT) (s : Nat) : Prop := ∀ P : Nat → Prop, (∀ u, u < bSz b → bG b u 120 = nI 1 → P u) → (∀ u t, u < bSz b → lnk b u t → P t → P u) → P s
def bit (b : bT) (C : Nat → Int32) : Prop := ∀ s, s < bSz b → C s = nI 0 ∨ C s = nI 1
def INC (b : bT) (C : Nat → Int32) : Prop := bit b C ∧ (∀ s, s < bSz b → C s = nI 1 → RCH b s) ∧ ∀ s, s < bSz b → bG b s 120 = nI 1 → C s = nI 1
def clo (b : bT) (C : Nat → Int32) : Prop := ∀ s, s < bSz b → ∀ t, lnk b s t → C t = nI 1 → C s = nI 1
def zc (C : Nat → Int32) : Nat → Nat
  | 0 => 0
  | k + 1 => zc C k + (if C k = nI 1 then 0 else 1)
theorem zc_le {C : Nat → Int32} : ∀ k, zc C k ≤ k := by
  intro k
  induction k with
  | zero => exact Nat.le_refl _
  | succ k ih =>
    show zc C k + _ ≤ k + 1
    split <;> omega
theorem zc_0 {C : Nat → Int32} : ∀ k, zc C k = 0 → ∀ s, s < k → C s = nI 1 := by
  intro k
  induction k with
  | zero => intro _ s hs; omega
  | succ k ih =>
    intro h s hs
    have h : zc C k + (if C k = nI 1 then 0 else 1) = 0 := h
    by_cases e : C k = nI 1
    · rw [if_pos e] at h
      rcases Nat.lt_or_ge s k with q | q
      · exact ih (by omega) s q
      · rw [show s = k by omega]; exact e
    · rw [if_neg e] at h; omega
theorem zc_cg {C C' : Nat → Int32} : ∀ k, (∀ s, s < k → (C s = nI 1 ↔ C' s = nI 1)) → zc C k = zc C' k := by
  intro k
  induction k with
  | zero => intro _; rfl
  | succ k ih =>
    intro h
    show zc C k + _ = zc C' k + _
    rw [ih (fun s hs => h s (by omega))]
    by_cases e : C k = nI 1
    · rw [if_pos e, if_pos ((h k (by omega)).mp e)]
    · rw [if_neg e, if_neg (fun w => e ((h k (by omega)).mpr w))]
theorem zc_up {C : Nat → Int32} {s : Nat} (hs : C s ≠ nI 1) : ∀ k, zc (upd C s (nI 1)) k + (if s < k then 1 else 0) = zc C k := by
  intro k
  induction k with
  | zero => rfl
  | succ k ih =>
    show zc (upd C s (nI 1)) k + (if upd C s (nI 1) k = nI 1 then 0 else 1) + _ = zc C k + (if C k = nI 1 then 0 else 1)
    by_cases e : k = s
    · subst e
      rw [upd_eq, if_pos rfl, if_neg hs, if_pos (by omega)]
      rw [if_neg (by omega)] at ih
      omega
    · rw [upd_ne e]
      by_cases q : s < k
      · rw [if_pos q] at ih
        rw [if_pos (show s < k + 1 by omega)]
        omega
      · rw [if_neg q] at ih
        rw [if_neg (show ¬ s < k + 1 by omega)]
        omega
theorem INC.set {b : bT} {C : Nat → Int32} (I : INC b C) {s t : Nat} (hs : s < bSz b) (ht : t < bSz b) (l : lnk b s t) (h0 : C s = nI 0) (h1 : C t = nI 1) : INC b (upd C s (nI 1)) ∧ zc (upd C s (nI 1)) (bSz b) < zc C (bSz b) := by
  obtain ⟨a, c, d⟩ := I
  refine ⟨⟨fun u hu => ?_, fun u hu e => ?_, fun u hu e => ?_⟩, ?_⟩
  · by_cases q : u = s
    · rw [q, upd_eq]; exact Or.inr rfl
    · rw [upd_ne q]; exact a u hu
  · by_cases q : u = s
    · rw [q]
      exact fun P p1 p2 => p2 s t hs l (c t ht h1 P p1 p2)
    · rw [upd_ne q] at e; exact c u hu e
  · by_cases q : u = s
    · rw [q, upd_eq]
    · rw [upd_ne q]; exact d u hu e
  · have := zc_up (C := C) (s := s) (by rw [h0]; decide) (bSz b)
    rw [if_pos hs] at this
    omega
theorem INC.fin {b : bT} {C : Nat → Int32} (I : INC b C) (c : clo b C) {s : Nat} (hs : s < bSz b) : C s = nI 1 ↔ RCH b s := by
  exact ⟨I.2.1 s hs, fun r => r (fun u => C u = nI 1) I.2.2 fun u t hu l e => c u hu t l e⟩
section STC
variable {h : zH} {o kd n : Nat} {b : bT} {sp : Nat → Int32} {ex : Int32}
/-- the heap with that row -/
def hC (h : zH) (o : Nat) (C : Nat → Int32) : zH := zup h (o + 308) (zI1 150 C)
theorem hC_ne {C : Nat → Int32} {k : Nat} (q : k ≠ o + 308) : hC h o C k = h k := zup_ne q
theorem ORB.hC' (O : ORB o kd b sp ex h) (C : Nat → Int32) : ORB o kd b sp ex (hC h o C) := by
  obtain ⟨a0, a1, ⟨g1, b1, c1⟩, ⟨g2, b2, c2⟩, a4, ⟨g5, b5, c5⟩, ⟨g6, b6, c6⟩, ⟨g7, b7, c7⟩, ⟨g8, b8, c8⟩, a9, ⟨g10, b10, c10⟩, -, a12, a13⟩ := O
  refine ⟨by rw [hC_ne (by omega)]; exact a0, by rw [hC_ne (by omega)]; exact a1, ⟨g1, by rw [hC_ne (by omega)]; exact b1, c1⟩, ⟨g2, by rw [hC_ne (by omega)]; exact b2, c2⟩, fun s hs => ?_, ⟨g5, by rw [hC_ne (by omega)]; exact b5, c5⟩, ⟨g6, by rw [hC_ne (by omega)]; exact b6, c6⟩, ⟨g7, by rw [hC_ne (by omega)]; exact b7, c7⟩, ⟨g8, by rw [hC_ne (by omega)]; exact b8, c8⟩, fun s hs => ?_, ⟨g10, by rw [hC_ne (by omega)]; exact b10, c10⟩, ⟨C, zup_eq _ _ _⟩, by rw [hC_ne (by omega)]; exact a12, a13⟩
  · obtain ⟨f, x, y⟩ := a4 s hs
    exact ⟨f, by rw [hC_ne (by omega)]; exact x, y⟩
  · obtain ⟨f, x, y⟩ := a9 s hs
    exact ⟨f, by rw [hC_ne (by omega)]; exact x, y⟩
theorem hC_ld {C : Nat → Int32} {k : Nat} (hk : k < 150) : zaZ (hC h o C) (o + 308) (nI k) = some (C k) := zA32_ld hk (by omega)
theorem hC_st {C : Nat → Int32} {k : Nat} {x : Nat} (hk : k < 150) (hx : x < 2) : zsZ (hC h o C) (o + 308) (nI k) (nI x) = some (hC h o (upd C k (nI x))) := by
  have e : vp_nar .boolean (nI x) = nI x := by
    rcases (show x = 0 ∨ x = 1 by omega) with rfl | rfl
    · exact nar_0
    · exact nar_1
  unfold zsZ
  rw [e]
  exact zS32_st hk (by omega)
/-- the lines out of a state -/
theorem ORB.nx (O : ORB o kd b sp ex h) (h150 : bSz b ≤ 150) (h21 : ∀ u, u < bSz b → bNs b u ≤ 21) {s : Nat} (hs : s < bSz b) : zaI h (o + 307) (nI s) = some (nI (bNs b s)) ∧ zaR 5 h (o + 156) (nI s) = some (o + 157 + s) ∧ ∀ k, k < bNs b s → zaI h (o + 157 + s) (nI k) = some (nI (bNx b s k)) := by
  have := h21 s hs
  obtain ⟨-, -, -, ⟨g2, b2, c2⟩, -, -, -, -, -, a9, ⟨g10, b10, c10⟩, -⟩ := O
  obtain ⟨f, x, y⟩ := a9 s (by omega)
  exact ⟨by rw [zaI, zA32_of b10 (by omega) (by omega), c10 s hs], zaR_of b2 (by omega) (by omega) (c2 _ (by omega)), fun k hk => by rw [zaI, zA32_of x (by omega) (by omega), y hs k hk]⟩
theorem s_15 (O : ORB o kd b sp ex h) (K : bOK kd n b) (h21 : ∀ u, u < bSz b → bNs b u ≤ 21) {s : Nat} (hs : s < bSz b) (k9 : (Int32 × Int32 × zH) → Option (Int32 × zH)) : ∀ (d k f more : Nat) (C : Nat → Int32), bNs b s - k = d → k ≤ bNs b s → d < f → more < 2 → INC b C → ∃ C' more', zloop (g_Orders_spreadCanSay_15 o (nI s) k9) f (nI more, nI k, hC h o C) = k9 (nI more', nI s + -1, hC h o C') ∧ more' < 2 ∧ INC b C' ∧ ((C' = C ∧ more' = more ∧ (C s = nI 1 ∨ ∀ j, k ≤ j → j < bNs b s → C (bNx b s j) ≠ nI 1)) ∨ (more' = 1 ∧ zc C' (bSz b) < zc C (bSz b))) := by
  have h150 := K.2.1
  have n1 := nI1_0
  have n0 := nI0_0
  intro d
  induction d with
  | zero =>
    intro k f more C hd hk hf hm I
    obtain ⟨f, rfl⟩ : ∃ k, f = k + 1 := ⟨f - 1, by omega⟩
    obtain ⟨-, -, -, -, -, -, -, -, r8, -⟩ := OE_rd (O.hC' C).1
    obtain ⟨lN, -, -⟩ := (O.hC' C).nx h150 h21 hs
    have c : (bNs b s ≤ k) = True := eq_true (by omega)
    have := h21 s hs
    refine ⟨C, more, ?_, hm, I, Or.inl ⟨rfl, rfl, Or.inr fun j a b => by omega⟩⟩
    show g_Orders_spreadCanSay_15 o (nI s) k9 _ (nI more, nI k, hC h o C) = _
    simp (disch := omega) only [g_Orders_spreadCanSay_15, r8, bind_some', lN, nI_le_iff, c, if_true]
  | succ d ih =>
    intro k f more C hd hk hf hm I
    obtain ⟨f, rfl⟩ : ∃ k, f = k + 1 := ⟨f - 1, by omega⟩
    obtain ⟨-, -, -, -, -, -, -, r7, r8, r9, -, r11, -⟩ := OE_rd (O.hC' C).1
    obtain ⟨lN, lR, lX⟩ := (O.hC' C).nx h150 h21 hs
    have lX := lX k (by omega)
    have c : (bNs b s ≤ k) = False := eq_false (by omega)
    have := h21 s hs
    have c21 : (21 ≤ k) = False := eq_false (by omega)
    have tn := K.2.2.2.1 s hs k (by omega)
    have ct : (bSz b ≤ bNx b s k) = False := eq_false (by omega)
    have lS := hC_ld (h := h) (o := o) (C := C) (k := s) (by omega)
    rcases I.1 s hs with e | e
    · have lT := hC_ld (h := h) (o := o) (C := C) (k := bNx b s k) (by omega)
      rcases I.1 _ tn with e2 | e2
      · obtain ⟨C', more', e', m', I', D⟩ := ih (k + 1) f more C (by omega) (by omega) (by omega) hm I
        refine ⟨C', more', ?_, m', I', D.imp_left fun ⟨x, y, z⟩ => ⟨x, y, z.imp_right fun w j a c => ?_⟩⟩
        · rw [← e']
          show g_Orders_spreadCanSay_15 o (nI s) k9 _ (nI more, nI k, hC h o C) = _
          simp (disch := omega) only [g_Orders_spreadCanSay_15, r8, bind_some', lN, nI_le_iff, c, c21, if_false, r9, lS, e, n0, if_true, r7, lR, lX, nI_lt0, r11, ct, lT, e2, nI_add]
        · rcases Nat.lt_or_ge k j with q | q
          · exact w j q c
          · rw [show j = k by omega, e2]; decide
      · obtain ⟨I2, lt⟩ := I.set hs tn ⟨k, by omega, rfl⟩ e e2
        obtain ⟨C', more', e', m', I', D⟩ := ih (k + 1) f 1 _ (by omega) (by omega) (by omega) (by omega) I2
        refine ⟨C', more', ?_, m', I', Or.inr ?_⟩
        · rw [← e']
          show g_Orders_spreadCanSay_15 o (nI s) k9 _ (nI more, nI k, hC h o C) = _
          have st := hC_st (h := h) (o := o) (C := C) (k := s) (x := 1) (by omega) (by omega)
          simp (disch := omega) only [g_Orders_spreadCanSay_15, r8, bind_some', lN, nI_le_iff, c, c21, if_false, r9, lS, e, n0, if_true, r7, lR, lX, nI_lt0, r11, ct, lT, e2, n1, st, nI_add]
        · rcases D with ⟨x, y, -⟩ | ⟨x, y⟩
          · exact ⟨y, by rw [x]; exact lt⟩
          · exact ⟨x, by omega⟩
    · refine ⟨C, more, ?_, hm, I, Or.inl ⟨rfl, rfl, Or.inl e⟩⟩
      show g_Orders_spreadCanSay_15 o (nI s) k9 _ (nI more, nI k, hC h o C) = _
      simp (disch := omega) only [g_Orders_spreadCanSay_15, r8, bind_some', lN, nI_le_iff, c, c21, if_false, r9, lS, e, n1]
theorem s_9 (O : ORB o kd b sp ex h) (K : bOK kd n b) (h21 : ∀ u, u < bSz b → bNs b u ≤ 21) : ∀ (j f more : Nat) (C : Nat → Int32), j ≤ bSz b → j < f → more < 2 → INC b C → ∃ C' more', zloop (g_Orders_spreadCanSay_9 o) f (nI more, nI j + -1, hC h o C) = some (nI more', hC h o C') ∧ more' < 2 ∧ INC b C' ∧ ((C' = C ∧ more' = more ∧ ∀ s, s < j → C s = nI 1 ∨ ∀ k, k < bNs b s → C (bNx b s k) ≠ nI 1) ∨ (more' = 1 ∧ zc C' (bSz b) < zc C (bSz b))) := by
  have h150 := K.2.1
  have zz := zN_big
  intro j
  induction j with
  | zero =>
    intro f more C hj hf hm I
    obtain ⟨f, rfl⟩ : ∃ k, f = k + 1 := ⟨f - 1, by omega⟩
    refine ⟨C, more, ?_, hm, I, Or.inl ⟨rfl, rfl, fun s hs => by omega⟩⟩
    show g_Orders_spreadCanSay_9 o _ (nI more, nI 0 + -1, hC h o C) = _
    have c : (nI 0 + -1 < (0 : Int32)) = True := by decide
    rcases (show more = 0 ∨ more = 1 by omega) with rfl | rfl
    · simp only [g_Orders_spreadCanSay_9, c, if_true, zbl_0]
    · simp only [g_Orders_spreadCanSay_9, c, if_true, zbl_1]
  | succ j ih =>
    intro f more C hj hf hm I
    obtain ⟨f, rfl⟩ : ∃ k, f = k + 1 := ⟨f - 1, by omega⟩
    have := h21 j (by omega)
    obtain ⟨C1, m1, e1, l1, I1, D1⟩ := s_15 O K h21 (show j < bSz b by omega) (zloop (g_Orders_spreadCanSay_9 o) f) (bNs b j) 0 zN more C rfl (by omega) (by omega) hm I
    obtain ⟨C2, m2, e2, l2, I2, D2⟩ := ih f m1 C1 (by omega) (by omega) l1 I1
    refine ⟨C2, m2, ?_, l2, I2, ?_⟩
    · have ej : nI (j + 1) + -1 = nI j := pk_m1 j
      rw [← e2, ← e1, ej]
      show g_Orders_spreadCanSay_9 o _ (nI more, nI j, hC h o C) = _
      have en : (nI j < 0) = False := nI_lt0 (by omega)
      simp only [g_Orders_spreadCanSay_9, en, if_false]
    · rcases D1 with ⟨rfl, rfl, w1⟩ | ⟨rfl, w1⟩
      · rcases D2 with ⟨rfl, rfl, w2⟩ | w2
        · refine Or.inl ⟨rfl, rfl, fun s hs => ?_⟩
          rcases Nat.lt_or_ge s j with q | q
          · exact w2 s q
          · rw [show s = j by omega]
            exact w1.imp_right fun w k hk => w k (Nat.zero_le _) hk
        · exact Or.inr w2
      · rcases D2 with ⟨rfl, rfl, w2⟩ | ⟨rfl, w2⟩
        · exact Or.inr ⟨rfl, w1⟩
        · exact Or.inr ⟨rfl, by omega⟩
theorem s_spread (O : ORB o kd b sp ex h) (K : bOK kd n b) (h21 : ∀ u, u < bSz b → bNs b u ≤ 21) {C : Nat → Int32} (I : INC b C) : ∃ C' more', m_Orders_spreadCanSay o (hC h o C) = some (nI more', hC h o C') ∧ INC b C' ∧ ((more' = 0 ∧ clo b C') ∨ (more' = 1 ∧ zc C' (bSz b) < zc C (bSz b))) := by
  have h150 := K.2.1
  have zz := zN_big
  obtain ⟨-, -, -, -, -, -, -, -, -, -, -, r11, -⟩ := OE_rd (O.hC' C).1
  obtain ⟨C', more', e, l, I', D⟩ := s_9 O K h21 (bSz b) zN 0 C (Nat.le_refl _) (by omega) (by omega) I
  refine ⟨C', more', ?_, I', ?_⟩
  · have e1 : nI (bSz b) + -1 = nI (bSz b) - nI 1 := sub_1 _
    rw [e1] at e
    simp only [m_Orders_spreadCanSay, r11, bind_some']
    exact e
  · rcases D with ⟨rfl, rfl, w⟩ | w
    · refine Or.inl ⟨rfl, fun s hs t ⟨k, hk, e⟩ ht => ?_⟩
      rcases w s hs with q | q
      · exact q
      · rw [← e] at ht
        exact absurd ht (q k hk)
    · exact Or.inr w
theorem s_44 (O : ORB o kd b sp ex h) (K : bOK kd n b) (h21 : ∀ u, u < bSz b → bNs b u ≤ 21) : ∀ (d p f more : Nat) (C : Nat → Int32), 150 - p = d → p ≤ 150 → d + 1 < f → INC b C → zc C (bSz b) ≤ d → ((more = 0 ∧ clo b C) ∨ more = 1) → ∃ C', zloop (g_Orders_stuckStates_44 o) f (nI more, nI p, hC h o C) = zloop (g_Orders_stuckStates_70 o (hC h o C')) zN (nI 0, nI 0) ∧ INC b C' ∧ clo b C' := by
  have h150 := K.2.1
  have n1 := nI1_0
  have n0 := nI0_0
  intro d
  induction d with
  | zero =>
    intro p f more C hd hp hf I z D
    obtain ⟨f, rfl⟩ : ∃ k, f = k + 1 := ⟨f - 1, by omega⟩
    refine ⟨C, ?_, I, fun s hs _ _ _ => zc_0 _ (by omega) s hs⟩
    show g_Orders_stuckStates_44 o _ (nI more, nI p, hC h o C) = _
    have c : (150 ≤ p) = True := eq_true (by omega)
    simp (disch := omega) only [g_Orders_stuckStates_44, nI_le_iff, c, if_true]
  | succ d ih =>
    intro p f more C hd hp hf I z D
    obtain ⟨f, rfl⟩ : ∃ k, f = k + 1 := ⟨f - 1, by omega⟩
    have c : (150 ≤ p) = False := eq_false (by omega)
    rcases D with ⟨rfl, cl⟩ | rfl
    · refine ⟨C, ?_, I, cl⟩
      show g_Orders_stuckStates_44 o _ (nI 0, nI p, hC h o C) = _
      simp (disch := omega) only [g_Orders_stuckStates_44, nI_le_iff, c, if_false, n0, if_true]
    · obtain ⟨C1, m1, e1, I1, D1⟩ := s_spread O K h21 I
      have st : zloop (g_Orders_stuckStates_44 o) (f + 1) (nI 1, nI p, hC h o C) = zloop (g_Orders_stuckStates_44 o) f (nI m1, nI (p + 1), hC h o C1) := by
        show g_Orders_stuckStates_44 o _ (nI 1, nI p, hC h o C) = _
        simp (disch := omega) only [g_Orders_stuckStates_44, nI_le_iff, c, if_false, n1, (O.hC' C).cvo, e1, zb2_some, nI_add]
      rw [st]
      rcases D1 with ⟨rfl, cl⟩ | ⟨rfl, w⟩
      · -- nothing more: it ends at the next look
        obtain ⟨f, rfl⟩ : ∃ k, f = k + 1 := ⟨f - 1, by omega⟩
        refine ⟨C1, ?_, I1, cl⟩
        show g_Orders_stuckStates_44 o _ (nI 0, nI (p + 1), hC h o C1) = _
        by_cases c2 : 150 ≤ p + 1
        · simp (disch := omega) only [g_Orders_stuckStates_44, nI_le_iff, eq_true c2, if_true]
        · simp (disch := omega) only [g_Orders_stuckStates_44, nI_le_iff, eq_false c2, if_false, n0, if_true]
      · exact ih (p + 1) f 1 C1 (by omega) (by omega) (by omega) I1 (by omega) (Or.inr rfl)
theorem s_70 (O : ORB o kd b sp ex h) (K : bOK kd n b) {C : Nat → Int32} (I : INC b C) : ∀ (d j f : Nat), bSz b - j = d → j ≤ bSz b → d < f → zloop (g_Orders_stuckStates_70 o (hC h o C)) f (nI (zc C j), nI j) = some (nI (zc C (bSz b)), hC h o C) := by
  have h150 := K.2.1
  have n1 := nI1_0
  have n0 := nI0_0
  obtain ⟨-, -, -, -, -, -, -, -, -, r9, -, r11, -⟩ := OE_rd (O.hC' C).1
  intro d
  induction d with
  | zero =>
    intro j f hd hj hf
    obtain ⟨f, rfl⟩ : ∃ k, f = k + 1 := ⟨f - 1, by omega⟩
    obtain rfl : j = bSz b := by omega
    show g_Orders_stuckStates_70 o (hC h o C) _ (nI (zc C (bSz b)), nI (bSz b)) = _
    have c : (bSz b ≤ bSz b) = True := eq_true (Nat.le_refl _)
    simp (disch := omega) only [g_Orders_stuckStates_70, r11, bind_some', nI_le_iff, c, if_true]
  | succ d ih =>
    intro j f hd hj hf
    obtain ⟨f, rfl⟩ : ∃ k, f = k + 1 := ⟨f - 1, by omega⟩
    have c : (bSz b ≤ j) = False := eq_false (by omega)
    have lS := hC_ld (h := h) (o := o) (C := C) (k := j) (by omega)
    rw [← ih (j + 1) f (by omega) (by omega) (by omega)]
    show g_Orders_stuckStates_70 o (hC h o C) _ (nI (zc C j), nI j) = zloop _ f (nI (zc C j + (if C j = nI 1 then 0 else 1)), nI (j + 1))
    rcases I.1 j (by omega) with e | e
    · have e3 : ¬ C j = nI 1 := by rw [e]; decide
      rw [if_neg e3]
      simp (disch := omega) only [g_Orders_stuckStates_70, r11, bind_some', nI_le_iff, c, if_false, r9, lS, e, n0, if_true, nI_add]
    · rw [if_pos e]
      simp (disch := omega) only [g_Orders_stuckStates_70, r11, bind_some', nI_le_iff, c, if_false, r9, lS, e, n1, nI_add]
def iniC (b : bT) (j : Nat) (C : Nat → Int32) : Nat → Int32 := fun s => if j ≤ s ∧ s < bSz b then (if bG b s 120 = nI 1 then nI 1 else nI 0) else C s
theorem iniC_INC {C : Nat → Int32} : INC b (iniC b 0 C) := by
  refine ⟨fun s hs => ?_, fun s hs e => ?_, fun s hs e => ?_⟩
  · unfold iniC
    rw [if_pos ⟨Nat.zero_le _, hs⟩]
    split
    · exact Or.inr rfl
    · exact Or.inl rfl
  · unfold iniC at e
    rw [if_pos ⟨Nat.zero_le _, hs⟩] at e
    by_cases q : bG b s 120 = nI 1
    · exact fun P p1 _ => p1 s hs q
    · rw [if_neg q] at e; exact absurd e (by decide)
  · unfold iniC
    rw [if_pos ⟨Nat.zero_le _, hs⟩, if_pos e]
theorem iniC_s {C : Nat → Int32} {j : Nat} (hj : j < bSz b) : iniC b (j + 1) (upd C j (if bG b j 120 = nI 1 then nI 1 else nI 0)) = iniC b j C := by
  funext s
  unfold iniC
  by_cases e : s = j
  · rw [e, if_neg (show ¬ (j + 1 ≤ j ∧ j < bSz b) by omega), upd_eq, if_pos (show j ≤ j ∧ j < bSz b from ⟨Nat.le_refl _, hj⟩)]
  · rw [upd_ne e]
    by_cases q : j ≤ s ∧ s < bSz b
    · rw [if_pos (by omega), if_pos q]
    · rw [if_neg (by omega), if_neg q]
theorem s_2 (O : ORB o kd b sp ex h) (K : bOK kd n b) : ∀ (d j f : Nat) (C : Nat → Int32), bSz b - j = d → j ≤ bSz b → d < f → zloop (g_Orders_stuckStates_2 o) f (nI j, hC h o C) = zloop (g_Orders_stuckStates_44 o) zN (nI 1, nI 0, hC h o (iniC b j C)) := by
  have h150 := K.2.1
  intro d
  induction d with
  | zero =>
    intro j f C hd hj hf
    obtain ⟨f, rfl⟩ : ∃ k, f = k + 1 := ⟨f - 1, by omega⟩
    obtain ⟨-, -, -, -, -, -, -, -, -, r9, -, r11, -⟩ := OE_rd (O.hC' C).1
    have e : iniC b j C = C := funext fun s => if_neg (by omega)
    rw [e]
    show g_Orders_stuckStates_2 o _ (nI j, hC h o C) = _
    have c : (bSz b ≤ j) = True := eq_true (by omega)
    simp (disch := omega) only [g_Orders_stuckStates_2, r11, bind_some', nI_le_iff, c, if_true]
  | succ d ih =>
    intro j f C hd hj hf
    obtain ⟨f, rfl⟩ : ∃ k, f = k + 1 := ⟨f - 1, by omega⟩
    obtain ⟨-, -, r2, -, -, -, -, -, -, r9, -, r11, -⟩ := OE_rd (O.hC' C).1
    have c : (bSz b ≤ j) = False := eq_false (by omega)
    obtain ⟨eR, eG⟩ := (O.hC' C).row (s := j) (by omega) h150
    have e120 : zaI (hC h o C) (o + 2 + j) (nI 120) = some (bG b j 120) := zA32_of eG (by omega) (by omega)
    rw [← iniC_s (show j < bSz b by omega), ← ih (j + 1) f _ (by omega) (by omega) (by omega)]
    show g_Orders_stuckStates_2 o _ (nI j, hC h o C) = _
    by_cases q : bG b j 120 = nI 1
    · rw [if_pos q]
      have st := hC_st (h := h) (o := o) (C := C) (k := j) (x := 1) (by omega) (by omega)
      simp (disch := omega) only [g_Orders_stuckStates_2, r11, bind_some', nI_le_iff, c, if_false, r9, r2, eR, e120, eq_true q, if_true, st, nI_add]
    · rw [if_neg q]
      have st := hC_st (h := h) (o := o) (C := C) (k := j) (x := 0) (by omega) (by omega)
      simp (disch := omega) only [g_Orders_stuckStates_2, r11, bind_some', nI_le_iff, c, if_false, r9, r2, eR, e120, eq_false q, st, nI_add]
theorem s_stuck (O : ORB o kd b sp ex h) (K : bOK kd n b) (h21 : ∀ u, u < bSz b → bNs b u ≤ 21) : ∃ C', m_Orders_stuckStates o h = some (nI (zc C' (bSz b)), hC h o C') ∧ INC b C' ∧ clo b C' := by
  have h150 := K.2.1
  have zz := zN_big
  obtain ⟨CS, e8⟩ := O.2.2.2.2.2.2.2.2.2.2.2.1
  have eh : hC h o CS = h := zup_self e8
  have e2 := s_2 O K (bSz b) 0 zN CS rfl (by omega) (by omega)
  obtain ⟨C', e3, I, cl⟩ := s_44 O K h21 150 0 zN 1 (iniC b 0 CS) rfl (by omega) (by omega) iniC_INC (Nat.le_trans (zc_le _) h150) (Or.inr rfl)
  have e4 := s_70 O K I (bSz b) 0 zN rfl (by omega) (by omega)
  refine ⟨C', ?_, I, cl⟩
  unfold m_Orders_stuckStates
  rw [eh] at e2
  rw [e2, e3]
  exact e4
end STC
