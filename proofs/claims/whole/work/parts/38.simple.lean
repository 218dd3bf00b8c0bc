/-! FEED, WAY, KIND, COUNT, LINES AND GOALS -/
theorem upd_self {f : Nat → Int32} {k : Nat} {x : Int32} (q : f k = x) : upd f k x = f := by
  funext j
  unfold upd
  split
  · rename_i e
    rw [e, q]
  · rfl
theorem M_wI (h : zH) (x a b : Int32) {lo hi : Int64} (hlo : lo = a.toInt64) (hhi : hi = b.toInt64) : m_Model_within x.toInt64 lo hi h = some (if x < a then nI 0 else if b < x then nI 0 else nI 1) := by
  have lt : ∀ y z : Int32, (y.toInt64 < z.toInt64) = (y < z) := fun y z => propext (by rw [Int64.lt_iff_toInt_lt, Int32.toInt_toInt64, Int32.toInt_toInt64]; exact Int32.lt_iff_toInt_lt.symm)
  have e1 : (lg_cmp x.toInt64 a.toInt64 < 0) = (x < a) := (propext (lg_cmp_lt _ _)).trans (lt _ _)
  have e2 : (0 < lg_cmp x.toInt64 b.toInt64) = (b < x) := (propext (lg_cmp_gt _ _)).trans (lt _ _)
  rw [hlo, hhi]
  by_cases c1 : x < a
  · rw [if_pos c1]
    simp only [m_Model_within, e1, eq_true c1, if_true]
  · rw [if_neg c1]
    by_cases c2 : b < x
    · rw [if_pos c2]
      simp only [m_Model_within, e1, e2, eq_false c1, eq_true c2, if_true, if_false]
    · rw [if_neg c2]
      simp only [m_Model_within, e1, e2, eq_false c1, eq_false c2, if_false]
def byt (v : Int32) (i : Nat) : Int32 := (v >>> (nI (8 * i) &&& 31)) &&& nI 255
theorem byt_256 (v : Int32) (i : Nat) : ∃ t, t < 256 ∧ byt v i = nI t := by
  obtain ⟨j, h, e⟩ := pk_andE (v >>> (nI (8 * i) &&& 31)) (m := nI 255) 8 (by decide)
  exact ⟨j, h, e⟩
def fdT (T : Nat → Int32) (tl : Nat) (v : Int32) (i j : Nat) : Nat → Int32 := fun k => if tl + i ≤ k ∧ k < tl + j then byt v (k - tl) else T k
theorem fdT_step {T : Nat → Int32} {tl i j : Nat} {v : Int32} (q : i < j) : fdT (upd T (tl + i) (byt v i)) tl v (i + 1) j = fdT T tl v i j := by
  funext k
  unfold fdT upd
  by_cases e : k = tl + i
  · rw [if_neg (by omega), if_pos e, if_pos (by omega), e, show tl + i - tl = i by omega]
  · by_cases e2 : tl + i ≤ k ∧ k < tl + j
    · rw [if_pos (by omega), if_pos e2]
    · rw [if_neg (by omega), if_neg e, if_neg e2]
theorem fdT_end {T : Nat → Int32} {tl i : Nat} {v : Int32} : fdT T tl v i i = T := by
  funext k
  unfold fdT
  rw [if_neg (by omega)]
theorem s_feed_l {h : zH} {tl w rb j : Nat} {v : Int32} (h0 : h 0 = HO tl w rb) (htl : tl + j ≤ 60) : ∀ (d i f : Nat) (T : Nat → Int32), j - i = d → i ≤ j → d < f → zloop (g_Home_feed_28 0 (nI j) v) f (nI i, zup h 1 (zI32 60 T)) = some (nI (tl + j), zup (zup h 1 (zI32 60 (fdT T tl v i j))) 0 (HO (tl + j) w rb)) := by
  have r0 : ∀ e, (zup h 1 e) 0 = HO tl w rb := fun e => by rw [zup_ne (by omega)]; exact h0
  have e0 : ∀ e, zrR (zup h 1 e) 0 6 0 = some 1 := fun e => (HO_rd (r0 e)).2.1
  have e1 : ∀ e, zrI (zup h 1 e) 0 6 1 = some (nI tl) := fun e => (HO_rd (r0 e)).2.2.1
  have e2 : ∀ e x, zwI (zup h 1 e) 0 6 1 (nI x) = some (zup (zup h 1 e) 0 (HO x w rb)) := fun e => (HO_wr (r0 e)).1
  have e3 : ∀ e x, zrI (zup (zup h 1 e) 0 (HO x w rb)) 0 6 1 = some (nI x) := fun e x => (HO_rd (zup_eq _ _ _)).2.2.1
  intro d
  induction d with
  | zero =>
    intro i f T hd hi hf
    obtain ⟨f, rfl⟩ : ∃ k, f = k + 1 := ⟨f - 1, by omega⟩
    obtain rfl : i = j := by omega
    have c : (i ≤ i) = True := eq_true (Nat.le_refl _)
    rw [fdT_end]
    show g_Home_feed_28 0 (nI i) v _ (nI i, zup h 1 (zI32 60 T)) = _
    simp (disch := omega) only [g_Home_feed_28, nI_le_iff, c, if_true, e1, bind_some', nI_add, e2, e3]
  | succ d ih =>
    intro i f T hd hi hf
    obtain ⟨f, rfl⟩ : ∃ k, f = k + 1 := ⟨f - 1, by omega⟩
    have c : (j ≤ i) = False := eq_false (by omega)
    have eb : (v >>> (nI (8 * i) &&& 31)) &&& nI 255 = byt v i := rfl
    rw [← fdT_step (by omega : i < j), ← ih (i + 1) f _ (by omega) (by omega) (by omega)]
    show g_Home_feed_28 0 (nI j) v (zloop _ f) (nI i, zup h 1 (zI32 60 T)) = _
    simp (disch := omega) only [g_Home_feed_28, nI_le_iff, c, if_false, e0, e1, bind_some', nI_add, pk_mul, eb, zsI, zS32_st]
theorem M_feed_l {h : zH} {m : Nat → Int32} {tl j : Nat} {v : Int32} (htl : tl + j ≤ 60) : ∀ (d i f : Nat) (T : Nat → Int32), j - i = d → i ≤ j → d < f → zloop (g_Model_feed_30 670 (nI j) v) f (nI i, zup (zup h 671 (zI32 60 T)) 670 (MO (upd m 1 (nI (tl + i))))) = some (nI (tl + j), zup (zup h 671 (zI32 60 (fdT T tl v i j))) 670 (MO (upd m 1 (nI (tl + j))))) := by
  have a1 : ∀ (e : zE) (m' : Nat → Int32), zrI (zup (zup h 671 e) 670 (MO m')) 670 7 1 = some (m' 1) := fun e m' => MO_rd _ _ (by unfold mosc; omega) (zup_eq _ _ _)
  have a0 : ∀ (e : zE) (m' : Nat → Int32), zrR (zup (zup h 671 e) 670 (MO m')) 670 7 0 = some 671 := fun e m' => (MO_ref _ m' (zup_eq _ _ _)).1
  have aw : ∀ (e : zE) (m' : Nat → Int32) x, zwI (zup (zup h 671 e) 670 (MO m')) 670 7 1 x = some (zup (zup h 671 e) 670 (MO (upd m' 1 x))) := fun e m' x => by rw [MO_wr _ m' x (by unfold mosc; omega) (zup_eq _ _ _), zup_zup]
  have as : ∀ (T : Nat → Int32) (m' : Nat → Int32) (k : Nat) x, k < 60 → zsI (zup (zup h 671 (zI32 60 T)) 670 (MO m')) 671 (nI k) x = some (zup (zup h 671 (zI32 60 (upd T k x))) 670 (MO m')) := fun T m' k x hk => by
    rw [zsI, zS32_of (g := T) (n := 60) (by rw [zup_ne (by omega), zup_eq]) hk (by omega), zup_comm (by omega), zup_zup]
  intro d
  induction d with
  | zero =>
    intro i f T hd hi hf
    obtain ⟨f, rfl⟩ : ∃ k, f = k + 1 := ⟨f - 1, by omega⟩
    obtain rfl : i = j := by omega
    have c : (i ≤ i) = True := eq_true (Nat.le_refl _)
    rw [fdT_end]
    show g_Model_feed_30 670 (nI i) v _ (nI i, _) = _
    simp (disch := omega) only [g_Model_feed_30, nI_le_iff, c, if_true, a1, bind_some', upd_eq]
  | succ d ih =>
    intro i f T hd hi hf
    obtain ⟨f, rfl⟩ : ∃ k, f = k + 1 := ⟨f - 1, by omega⟩
    have c : (j ≤ i) = False := eq_false (by omega)
    have eb : (v >>> (nI (8 * i) &&& 31)) &&& nI 255 = byt v i := rfl
    rw [← fdT_step (by omega : i < j), ← ih (i + 1) f _ (by omega) (by omega) (by omega)]
    show g_Model_feed_30 670 (nI j) v (zloop _ f) (nI i, _) = _
    simp (disch := omega) only [g_Model_feed_30, nI_le_iff, c, if_false, a0, a1, bind_some', nI_add, pk_mul, eb, as, aw, upd_eq, upd_upd]
    rfl
section CALLS1
variable {h : zH} {n tl w rb ran b : Nat} {X : Nat → Nat → Nat} {Le : Nat → Nat} {Kf : Nat → Int32}
theorem f_feed (B : BAS n X Le tl w rb ran Kf b h) (x v : Int32) : ∃ r h1 h2, m_Home_feed 0 x v h = some (r, h1) ∧ m_Model_feed 670 x v h1 = some (r, h2) ∧ (∃ tl', BAS n X Le tl' w rb ran Kf b h2) ∧ ∀ k, 21 ≤ k → k < 643 → h2 k = h k := by
  obtain ⟨⟨h0, m, hm, m1, m4, m6, m19, m27⟩, ⟨t60, T, t1, t2, tb⟩, cH, cK, cR, cS, cC, cA, cX⟩ := id B
  have z := zN_big
  have w1 := M_wI h x (nI 1) (nI 4) (lo := 1) (hi := 4) (by decide) (by decide)
  have n1 := nI1_0
  have n0 := nI0_0
  by_cases c1 : x < nI 1
  · rw [if_pos c1] at w1
    refine ⟨-1, h, h, ?_, ?_, ⟨tl, B⟩, fun k _ _ => rfl⟩
    · simp only [m_Home_feed, eq_true c1, if_true]
    · simp only [m_Model_feed, w1, bind_some', n0, if_true]
  · by_cases c2 : nI 4 < x
    · rw [if_neg c1, if_pos c2] at w1
      refine ⟨-1, h, h, ?_, ?_, ⟨tl, B⟩, fun k _ _ => rfl⟩
      · simp only [m_Home_feed, eq_false c1, if_false, eq_false (Int32.not_le.mpr c2)]
      · simp only [m_Model_feed, w1, bind_some', n0, if_true]
    · rw [if_neg c1, if_neg c2] at w1
      have x0 : ¬ x < 0 := fun q => c1 (Int32.lt_trans q (by decide))
      obtain ⟨j, j4, rfl⟩ := nI_of2 (M := nI 4) (n := 4) (by decide) x0 (Int32.not_lt.mp c2)
      have j1 : ¬ j < 1 := fun q => c1 ((nI_ltI (by omega) (by omega)).mpr q)
      have e1 : zrI h 0 6 1 = some (nI tl) := (HO_rd h0).2.2.1
      have c4 : (j ≤ 4) = True := eq_true j4
      have c1' : (j < 1) = False := eq_false j1
      by_cases c3 : tl + j ≤ 60
      · have c3a : (tl ≤ 60 - j) = True := eq_true (by omega)
        have c3b : (tl + j ≤ 60) = True := eq_true c3
        have lp := s_feed_l (v := v) h0 c3 j 0 zN T rfl (by omega) (by omega)
        rw [zup_self t1] at lp
        have hm1 : (zup (zup h 1 (zI32 60 (fdT T tl v 0 j))) 0 (HO (tl + j) w rb)) 670 = MO m := by rw [zup_ne (by omega), zup_ne (by omega)]; exact hm
        have ht1 : (zup (zup h 1 (zI32 60 (fdT T tl v 0 j))) 0 (HO (tl + j) w rb)) 671 = zI32 60 T := by rw [zup_ne (by omega), zup_ne (by omega)]; exact t2
        have lm := M_feed_l (h := zup (zup h 1 (zI32 60 (fdT T tl v 0 j))) 0 (HO (tl + j) w rb)) (m := m) (v := v) c3 j 0 zN T rfl (by omega) (by omega)
        rw [zup_self ht1, upd_self (x := nI (tl + 0)) m1, zup_self hm1] at lm
        have w1' : ∀ h', m_Model_within (nI j).toInt64 1 4 h' = some (nI 1) := fun h' => by
          have := M_wI h' (nI j) (nI 1) (nI 4) (lo := 1) (hi := 4) (by decide) (by decide)
          rw [if_neg c1, if_neg c2] at this
          exact this
        have em1 : ∀ h', h' 670 = MO m → zrI h' 670 7 1 = some (nI tl) := fun h' q => by rw [MO_rd h' m (by unfold mosc; omega) q, m1]
        refine ⟨nI (tl + j), zup (zup h 1 (zI32 60 (fdT T tl v 0 j))) 0 (HO (tl + j) w rb), zup (zup (zup (zup h 1 (zI32 60 (fdT T tl v 0 j))) 0 (HO (tl + j) w rb)) 671 (zI32 60 (fdT T tl v 0 j))) 670 (MO (upd m 1 (nI (tl + j)))), ?_, ?_, ⟨tl + j, ?_⟩, ?_⟩
        · simp (disch := omega) only [m_Home_feed, nI_lt_iff, c1', if_false, nI_le_iff, c4, if_true, e1, bind_some', nI_subn, c3a, lp]
        · simp (disch := omega) only [m_Model_feed, w1', bind_some', n1, if_false, em1 _ hm1, nI_add, nI_le_iff, c3b, if_true, lm]
        · have q : ∀ k, k ≠ 0 → k ≠ 1 → k ≠ 670 → k ≠ 671 → zup (zup (zup (zup h 1 (zI32 60 (fdT T tl v 0 j))) 0 (HO (tl + j) w rb)) 671 (zI32 60 (fdT T tl v 0 j))) 670 (MO (upd m 1 (nI (tl + j)))) k = h k := fun k a b c d => by rw [zup_ne c, zup_ne d, zup_ne a, zup_ne b]
          refine ⟨⟨by rw [zup_ne (by omega), zup_ne (by omega), zup_eq], _, zup_eq _ _ _, upd_eq _ _ _, ?_, ?_, ?_, ?_⟩, ⟨c3, _, by rw [zup_ne (by omega), zup_ne (by omega), zup_ne (by omega), zup_eq], by rw [zup_ne (by omega), zup_eq], fun k hk => ?_⟩, cH.fr fun k y => q k (by omega) (by omega) (by omega) (by omega), cK.fr fun k y => q k (by omega) (by omega) (by omega) (by omega), cR.fr fun k y => q k (by omega) (by omega) (by omega) (by omega), cS.fr fun k y => q k (by omega) (by omega) (by omega) (by omega), cC.fr fun k y => q k (by omega) (by omega) (by omega) (by omega), cA.fr fun k y => q k (by omega) (by omega) (by omega) (by omega), cX.fr fun k y => q k (by omega) (by omega) (by omega) (by omega)⟩
          · rw [upd_ne (by omega)]; exact m4
          · rw [upd_ne (by omega)]; exact m6
          · rw [upd_ne (by omega)]; exact m19
          · rw [upd_ne (by omega)]; exact m27
          · unfold fdT
            split
            · exact byt_256 _ _
            · exact tb k hk
        · intro k a b
          rw [zup_ne (by omega), zup_ne (by omega), zup_ne (by omega), zup_ne (by omega)]
      · have c3a : (tl ≤ 60 - j) = False := eq_false (by omega)
        have c3b : (tl + j ≤ 60) = False := eq_false c3
        have em1 : zrI h 670 7 1 = some (nI tl) := by rw [MO_rd h m (by unfold mosc; omega) hm, m1]
        refine ⟨-3, h, h, ?_, ?_, ⟨tl, B⟩, fun k _ _ => rfl⟩
        · simp (disch := omega) only [m_Home_feed, nI_lt_iff, c1', if_false, nI_le_iff, c4, if_true, e1, bind_some', nI_subn, c3a]
        · simp (disch := omega) only [m_Model_feed, w1, bind_some', n1, if_false, em1, nI_add, nI_le_iff, c3b]
theorem isKind_ix (x : Int32) (h : zH) : m_Home_isKind x h = some (if ix x 9 = none then nI 0 else nI 1) := by
  rcases ix_cases x 9 (by omega) with ⟨z, q⟩ | ⟨k, hk, rfl, z⟩
  · rw [z, if_pos rfl]
    by_cases q0 : x < 0
    · simp only [m_Home_isKind, eq_true q0, if_true]
    · simp only [m_Home_isKind, eq_false q0, if_false, eq_true (q.resolve_left q0), if_true]
  · rw [z]
    have c : (9 ≤ k) = False := eq_false (by omega)
    have c2 : ((some k : Option Nat) = none) = False := by simp
    simp (disch := omega) only [m_Home_isKind, nI_lt0, if_false, nI_le_iff, c, c2]
theorem f_way (B : BAS n X Le tl w rb ran Kf b h) (x : Int32) : ∃ r h1 h2, m_Home_way 0 x h = some (r, h1) ∧ m_Model_way 670 x h1 = some (r, h2) ∧ (∃ w' Kf', BAS n X Le tl w' rb ran Kf' b h2) ∧ ∀ k, 21 ≤ k → k < 643 → h2 k = h k := by
  obtain ⟨⟨h0, m, hm, m1, m4, m6, m19, m27⟩, cT, cH, ⟨w10, k1, k2, kk⟩, cR, cS, cC, cA, cX⟩ := id B
  have n1 := nI1_0
  have n0 := nI0_0
  have ik := isKind_ix x h
  have wX := fun h' => M_wX (h := h') (x := x) (b := 8) (hi := 8) rfl (by omega)
  rcases ix_cases x 9 (by omega) with ⟨z, -⟩ | ⟨kd, hkd, rfl, z⟩
  · rw [z, if_pos rfl] at ik
    have wX' := wX h
    rw [z, if_pos rfl] at wX'
    refine ⟨-1, h, h, ?_, ?_, ⟨w, Kf, B⟩, fun k _ _ => rfl⟩
    · simp only [m_Home_way, ik, bind_some', n0, if_true]
    · simp only [m_Model_way, wX', bind_some', n0, if_true]
  · have e0 : ((some kd : Option Nat) = none) = False := by simp
    rw [z] at ik
    rw [z] at wX
    simp only [e0, if_false] at ik wX
    have e4 : zrI h 0 6 4 = some (nI w) := (HO_rd h0).2.2.2.2.2.1
    have e3 : zrR h 0 6 3 = some 18 := (HO_rd h0).2.2.2.2.1
    have f6 : ∀ h', h' 670 = MO m → zrI h' 670 7 6 = some (nI w) := fun h' q => by rw [MO_rd h' m (by unfold mosc; omega) q, m6]
    by_cases c : w < 10
    · have c1 : (w < 10) = True := eq_true c
      have c2 : (w = 10) = False := eq_false (by omega)
      have h0' : ∀ e, (zup h 18 e) 0 = HO tl w rb := fun e => by rw [zup_ne (by omega)]; exact h0
      have s18 : zsI h 18 (nI w) (nI kd) = some (zup h 18 (zI32 10 (upd Kf w (nI kd)))) := by rw [zsI, zS32_of k1 c (by omega)]
      have r4 : ∀ e, zrI (zup h 18 e) 0 6 4 = some (nI w) := fun e => (HO_rd (h0' e)).2.2.2.2.2.1
      have w4 : ∀ e x, zwI (zup h 18 e) 0 6 4 (nI x) = some (zup (zup h 18 e) 0 (HO tl x rb)) := fun e x => (HO_wr (h0' e)).2.1 x
      have r4' : ∀ e x, zrI (zup (zup h 18 e) 0 (HO tl x rb)) 0 6 4 = some (nI x) := fun e x => (HO_rd (zup_eq _ _ _)).2.2.2.2.2.1
      have hm1 : ∀ e e', (zup (zup h 18 e) 0 e') 670 = MO m := fun e e' => by rw [zup_ne (by omega), zup_ne (by omega)]; exact hm
      have hk1 : ∀ e e', (zup (zup h 18 e) 0 e') 674 = zI32 10 Kf := fun e e' => by rw [zup_ne (by omega), zup_ne (by omega)]; exact k2
      have q5 : ∀ e e', zrR (zup (zup h 18 e) 0 e') 670 7 5 = some 674 := fun e e' => (MO_ref _ m (hm1 e e')).2.2.2.1
      have q6 : ∀ e e', zrI (zup (zup h 18 e) 0 e') 670 7 6 = some (nI w) := fun e e' => f6 _ (hm1 e e')
      have qs : ∀ e e', zsI (zup (zup h 18 e) 0 e') 674 (nI w) (nI kd) = some (zup (zup (zup h 18 e) 0 e') 674 (zI32 10 (upd Kf w (nI kd)))) := fun e e' => by rw [zsI, zS32_of (hk1 e e') c (by omega)]
      have hm2 : ∀ e e' e'', (zup (zup (zup h 18 e) 0 e') 674 e'') 670 = MO m := fun e e' e'' => by rw [zup_ne (by omega)]; exact hm1 e e'
      have q6' : ∀ e e' e'', zrI (zup (zup (zup h 18 e) 0 e') 674 e'') 670 7 6 = some (nI w) := fun e e' e'' => f6 _ (hm2 e e' e'')
      have qw : ∀ e e' e'' x, zwI (zup (zup (zup h 18 e) 0 e') 674 e'') 670 7 6 x = some (zup (zup (zup (zup h 18 e) 0 e') 674 e'') 670 (MO (upd m 6 x))) := fun e e' e'' x => MO_wr _ m x (by unfold mosc; omega) (hm2 e e' e'')
      have q6w : ∀ e e' e'' x, zrI (zup (zup (zup (zup h 18 e) 0 e') 674 e'') 670 (MO (upd m 6 x))) 670 7 6 = some x := fun e e' e'' x => by rw [MO_rd _ _ (by unfold mosc; omega) (zup_eq _ _ _), upd_eq]
      refine ⟨nI w, zup (zup h 18 (zI32 10 (upd Kf w (nI kd)))) 0 (HO tl (w + 1) rb), zup (zup (zup (zup h 18 (zI32 10 (upd Kf w (nI kd)))) 0 (HO tl (w + 1) rb)) 674 (zI32 10 (upd Kf w (nI kd)))) 670 (MO (upd m 6 (nI (w + 1)))), ?_, ?_, ⟨w + 1, upd Kf w (nI kd), ?_⟩, ?_⟩
      · simp (disch := omega) only [m_Home_way, ik, bind_some', n1, if_false, e4, nI_lt_iff, c1, if_true, e3, s18, r4, nI_add, w4, r4', nI_subn]
        rfl
      · simp (disch := omega) only [m_Model_way, wX, bind_some', n1, if_false, q6, nI_eq_iff, c2, q5, qs, q6', nI_add, qw, q6w, nI_subn]
        rfl
      · have q : ∀ k, k ≠ 0 → k ≠ 18 → k ≠ 670 → k ≠ 674 → zup (zup (zup (zup h 18 (zI32 10 (upd Kf w (nI kd)))) 0 (HO tl (w + 1) rb)) 674 (zI32 10 (upd Kf w (nI kd)))) 670 (MO (upd m 6 (nI (w + 1)))) k = h k := fun k a b c d => by rw [zup_ne c, zup_ne d, zup_ne a, zup_ne b]
        refine ⟨⟨by rw [zup_ne (by omega), zup_ne (by omega), zup_eq], _, zup_eq _ _ _, ?_, ?_, upd_eq _ _ _, ?_, ?_⟩, cT.fr fun k y => q k (by omega) (by omega) (by omega) (by omega), cH.fr fun k y => q k (by omega) (by omega) (by omega) (by omega), ⟨by omega, by rw [zup_ne (by omega), zup_ne (by omega), zup_ne (by omega), zup_eq], by rw [zup_ne (by omega), zup_eq], fun i hi => ?_⟩, (cR.fr fun k y => q k (by omega) (by omega) (by omega) (by omega)).mono (by omega) (Nat.le_refl _) (fun i hi => upd_ne (by omega)), cS.fr fun k y => q k (by omega) (by omega) (by omega) (by omega), cC.fr fun k y => q k (by omega) (by omega) (by omega) (by omega), cA.fr fun k y => q k (by omega) (by omega) (by omega) (by omega), (cX.fr fun k y => q k (by omega) (by omega) (by omega) (by omega)).mono (by omega)⟩
        · rw [upd_ne (by omega)]; exact m1
        · rw [upd_ne (by omega)]; exact m4
        · rw [upd_ne (by omega)]; exact m19
        · rw [upd_ne (by omega)]; exact m27
        · by_cases e : i = w
          · exact ⟨kd, hkd, by rw [e, upd_eq]⟩
          · rw [upd_ne e]; exact kk i (by omega)
      · intro k a b
        rw [zup_ne (by omega), zup_ne (by omega), zup_ne (by omega), zup_ne (by omega)]
    · have c1 : (w < 10) = False := eq_false c
      have c2 : (w = 10) = True := eq_true (by omega)
      refine ⟨-3, h, h, ?_, ?_, ⟨w, Kf, B⟩, fun k _ _ => rfl⟩
      · simp (disch := omega) only [m_Home_way, ik, bind_some', n1, if_false, e4, nI_lt_iff, c1]
      · simp (disch := omega) only [m_Model_way, wX, bind_some', n1, if_false, f6 _ hm, nI_eq_iff, c2, if_true]
theorem f_kindOf (B : BAS n X Le tl w rb ran Kf b h) (x : Int32) : ∃ r, m_Home_kindOf 0 x h = some r ∧ m_Model_kindOf 670 x h = some r := by
  obtain ⟨⟨h0, m, hm, m1, m4, m6, m19, m27⟩, cT, cH, ⟨w10, k1, k2, kk⟩, cR, cS, cC, cA, cX⟩ := id B
  have n1 := nI1_0
  have n0 := nI0_0
  have a := isWay_H h0 w10 x
  have a' := isWay_M hm m6 w10 x
  rcases ix_cases x w (by omega) with ⟨z, -⟩ | ⟨j, hj, rfl, z⟩
  · rw [z, if_pos rfl] at a a'
    exact ⟨-1, by simp only [m_Home_kindOf, HO_cv h0, a, bind_some', n0, if_true], by simp only [m_Model_kindOf, MO_cv _ m hm, a', bind_some', n0, if_true]⟩
  · have e0 : ((some j : Option Nat) = none) = False := by simp
    rw [z] at a a'
    simp only [e0, if_false] at a a'
    have e3 : zrR h 0 6 3 = some 18 := (HO_rd h0).2.2.2.2.1
    have f5 : zrR h 670 7 5 = some 674 := (MO_ref h m hm).2.2.2.1
    have l1 : zaI h 18 (nI j) = some (Kf j) := zA32_of k1 (by omega) (by omega)
    have l2 : zaI h 674 (nI j) = some (Kf j) := zA32_of k2 (by omega) (by omega)
    exact ⟨Kf j, by simp only [m_Home_kindOf, HO_cv h0, a, bind_some', n1, if_false, e3, l1], by simp only [m_Model_kindOf, MO_cv _ m hm, a', bind_some', n1, if_false, f5, l2]⟩
theorem f_count (B : BAS n X Le tl w rb ran Kf b h) (x : Int32) : ∃ r, m_Home_count 0 x h = some r ∧ m_Model_count 670 x h = some r := by
  obtain ⟨⟨h0, m, hm, m1, m4, m6, m19, m27⟩, cT, cH, cK, cR, cS, cC, cA, cX⟩ := id B
  obtain ⟨-, -, ⟨hB, -⟩, -⟩ := cH
  obtain ⟨-, ⟨a, b, e643⟩, -⟩ := cA
  obtain ⟨cl, e1, -⟩ := HB_rd hB
  obtain ⟨-, -, q1, q2, -, q4, -, q6, -, -, -, q10, -⟩ := HO_rd h0
  have cv : ∀ {α : Type} (o : Option α), zcv h 2 1 o = o := fun o => zcv_of cl
  have cv2 : ∀ {α : Type} (o : Option α), zcv h 643 0 o = o := fun o => zcv_of (zcls_of e643)
  have ran' : zrI h 643 0 1 = some (nI ran) := zrI_of e643 rfl
  have p4 : zrI h 670 7 4 = some (nI n) := by rw [MO_rd h m (by unfold mosc; omega) hm, m4]
  have p6 : zrI h 670 7 6 = some (nI w) := by rw [MO_rd h m (by unfold mosc; omega) hm, m6]
  have p19 : zrI h 670 7 19 = some (nI rb) := by rw [MO_rd h m (by unfold mosc; omega) hm, m19]
  have p1 : zrI h 670 7 1 = some (nI tl) := by rw [MO_rd h m (by unfold mosc; omega) hm, m1]
  have p27 : zrI h 670 7 27 = some (nI ran) := by rw [MO_rd h m (by unfold mosc; omega) hm, m27]
  by_cases c0 : x = nI 0
  · exact ⟨nI n, by simp only [m_Home_count, eq_true c0, if_true, q2, bind_some', cv, m_Huts_size, e1], by simp only [m_Model_count, eq_true c0, if_true, p4, bind_some']⟩
  by_cases c1 : x = nI 1
  · exact ⟨nI w, by simp only [m_Home_count, eq_false c0, if_false, eq_true c1, if_true, q4, bind_some'], by simp only [m_Model_count, eq_false c0, if_false, eq_true c1, if_true, p6, bind_some']⟩
  by_cases c2 : x = nI 2
  · exact ⟨nI rb, by simp only [m_Home_count, eq_false c0, if_false, eq_false c1, eq_true c2, if_true, q6, bind_some'], by simp only [m_Model_count, eq_false c0, if_false, eq_false c1, eq_true c2, if_true, p19, bind_some']⟩
  by_cases c3 : x = nI 3
  · exact ⟨nI tl, by simp only [m_Home_count, eq_false c0, if_false, eq_false c1, eq_false c2, eq_true c3, if_true, q1, bind_some'], by simp only [m_Model_count, eq_false c0, if_false, eq_false c1, eq_false c2, eq_true c3, if_true, p1, bind_some']⟩
  by_cases c4 : x = nI 4
  · exact ⟨nI ran, by simp only [m_Home_count, eq_false c0, if_false, eq_false c1, eq_false c2, eq_false c3, eq_true c4, if_true, q10, bind_some', cv2, m_Acts_ran, ran'], by simp only [m_Model_count, eq_false c0, if_false, eq_false c1, eq_false c2, eq_false c3, eq_true c4, if_true, p27, bind_some']⟩
  · exact ⟨-1, by simp only [m_Home_count, eq_false c0, if_false, eq_false c1, eq_false c2, eq_false c3, eq_false c4], by simp only [m_Model_count, eq_false c0, if_false, eq_false c1, eq_false c2, eq_false c3, eq_false c4]⟩
end CALLS1
