/-! A RUN OF THE MODEL GOES ON -/
section MRV
variable {h : zH} {m g : Nat → Int32} {fm n kd c : Nat} {fu d1 d2 : Int32} {nw : Nat → Int32 → Nat} {go : Nat → Int32 → Nat → Nat}
theorem M_isOver_l (hn : n ≤ 6) (h4 : m 4 = nI n) (hb : ∀ hh, n ≤ hh → hh < 6 → g hh = 0) : ∀ (d j f : Nat), n - j = d → j ≤ n → d < f →
    (g 18 = 0 ∧ (∀ i, i < j → g i = 0) → zloop (g_Model_isOver_15 670 (mg h m fm n kd fu d1 d2 g)) f (nI 1, nI j) = some (ovN g)) ∧ (¬ ovr g → zloop (g_Model_isOver_15 670 (mg h m fm n kd fu d1 d2 g)) f (nI 0, nI j) = some (nI 0)) := by
  have n1 := nI1_0
  have n0 := nI0_0
  intro d
  induction d with
  | zero =>
    intro j f hd hj hf
    obtain ⟨f, rfl⟩ : ∃ k, f = k + 1 := ⟨f - 1, by omega⟩
    have c : (n ≤ j) = True := eq_true (by omega)
    refine ⟨fun ⟨a, b⟩ => ?_, fun _ => ?_⟩
    · have o : ovr g := ⟨a, fun hh q => (Nat.lt_or_ge hh j).elim (b hh) (fun z => hb hh (by omega) q)⟩
      rw [ovN_1 o]
      show g_Model_isOver_15 670 _ _ (nI 1, nI j) = _
      simp (disch := omega) only [g_Model_isOver_15, M_4 h4, bind_some', nI_le_iff, c, if_true]
      rfl
    · show g_Model_isOver_15 670 _ _ (nI 0, nI j) = _
      simp (disch := omega) only [g_Model_isOver_15, M_4 h4, bind_some', nI_le_iff, c, if_true]
      rfl
  | succ d ih =>
    intro j f hd hj hf
    obtain ⟨f, rfl⟩ : ∃ k, f = k + 1 := ⟨f - 1, by omega⟩
    have c : (n ≤ j) = False := eq_false (by omega)
    have p0 : pm fm n (6 * j + 0) = some j := pm0 (by omega)
    obtain ⟨i1, i0⟩ := ih (j + 1) f (by omega) (by omega) (by omega)
    refine ⟨fun ⟨a, b⟩ => ?_, fun o => ?_⟩
    · show g_Model_isOver_15 670 _ (zloop _ f) (nI 1, nI j) = _
      by_cases z : g j = 0
      · simp (disch := omega) only [g_Model_isOver_15, M_4 h4, bind_some', nI_le_iff, c, if_false, n1, M_cv, M_of p0, eq_true z, if_true, nI_add]
        exact i1 ⟨a, fun i hi => (Nat.lt_or_ge i j).elim (b i) (fun w => by rw [show i = j by omega]; exact z)⟩
      · have o : ¬ ovr g := fun q => z (q.2 j (by omega))
        rw [ovN_0 o]
        simp (disch := omega) only [g_Model_isOver_15, M_4 h4, bind_some', nI_le_iff, c, if_false, n1, M_cv, M_of p0, eq_false z, nI_add]
        exact i0 o
    · show g_Model_isOver_15 670 _ (zloop _ f) (nI 0, nI j) = _
      simp (disch := omega) only [g_Model_isOver_15, M_4 h4, bind_some', nI_le_iff, c, if_false, n0, if_true, nI_add]
      exact i0 o
theorem M_isOver (hn : n ≤ 6) (h4 : m 4 = nI n) (hb : ∀ hh, n ≤ hh → hh < 6 → g hh = 0) : m_Model_isOver 670 (mg h m fm n kd fu d1 d2 g) = some (ovN g) := by
  have z := zN_big
  obtain ⟨i1, i0⟩ := M_isOver_l (h := h) (fm := fm) (kd := kd) (fu := fu) (d1 := d1) (d2 := d2) hn h4 hb n 0 zN rfl (by omega) (by omega)
  by_cases w : g 18 = 0
  · simp only [m_Model_isOver, M_cv, M_words, bind_some', eq_true w, if_true]
    exact i1 ⟨w, fun i hi => by omega⟩
  · have o : ¬ ovr g := fun q => w q.1
    simp only [m_Model_isOver, M_cv, M_words, bind_some', eq_false w, if_false]
    rw [ovN_0 o]
    exact i0 o
theorem mh_cv {α : Type} {r : Nat → Int32} (o : Option α) : zcv (mh h m r) 670 7 o = o := MO_cv _ _ mh_670 o
/-- the arrays of the runs -/
def RA (h : zH) (KP rW rS rA rB sA oA : Nat → Int32) : Prop := h 676 = zI32 364 KP ∧ h 677 = zI32 4 rW ∧ h 678 = zI32 4 rS ∧ h 679 = zI32 4 rA ∧ h 680 = zI32 4 rB ∧ h 681 = zI32 4 sA ∧ h 682 = zI32 4 oA
def wRA (h : zH) (KP rW rS rA rB sA oA : Nat → Int32) : zH := zup (zup (zup (zup (zup (zup (zup h 676 (zI32 364 KP)) 677 (zI32 4 rW)) 678 (zI32 4 rS)) 679 (zI32 4 rA)) 680 (zI32 4 rB)) 681 (zI32 4 sA)) 682 (zI32 4 oA)
theorem wRA_self {KP rW rS rA rB sA oA : Nat → Int32} (q : RA h KP rW rS rA rB sA oA) : wRA h KP rW rS rA rB sA oA = h := by
  obtain ⟨a, b, c, d, e, f, i⟩ := q
  unfold wRA
  rw [zup_self a, zup_self b, zup_self c, zup_self d, zup_self e, zup_self f, zup_self i]
theorem wRA_RA {KP rW rS rA rB sA oA : Nat → Int32} : RA (wRA h KP rW rS rA rB sA oA) KP rW rS rA rB sA oA := by
  unfold RA wRA
  refine ⟨?_, ?_, ?_, ?_, ?_, ?_, ?_⟩
  · rw [zup_ne (by omega), zup_ne (by omega), zup_ne (by omega), zup_ne (by omega), zup_ne (by omega), zup_ne (by omega), zup_eq]
  · rw [zup_ne (by omega), zup_ne (by omega), zup_ne (by omega), zup_ne (by omega), zup_ne (by omega), zup_eq]
  · rw [zup_ne (by omega), zup_ne (by omega), zup_ne (by omega), zup_ne (by omega), zup_eq]
  · rw [zup_ne (by omega), zup_ne (by omega), zup_ne (by omega), zup_eq]
  · rw [zup_ne (by omega), zup_ne (by omega), zup_eq]
  · rw [zup_ne (by omega), zup_eq]
  · rw [zup_eq]
theorem wRA_ne {KP rW rS rA rB sA oA : Nat → Int32} {k : Nat} (q : k < 676 ∨ 683 ≤ k) : wRA h KP rW rS rA rB sA oA k = h k := by
  unfold wRA
  rw [zup_ne (by omega), zup_ne (by omega), zup_ne (by omega), zup_ne (by omega), zup_ne (by omega), zup_ne (by omega), zup_ne (by omega)]
theorem wRA_1 {KP rW rS rA rB sA oA X : Nat → Int32} : zup (wRA h KP rW rS rA rB sA oA) 676 (zI32 364 X) = wRA h X rW rS rA rB sA oA := by
  unfold wRA
  funext k
  unfold zup
  by_cases e : k = 676
  · rw [if_pos e, if_neg (by omega), if_neg (by omega), if_neg (by omega), if_neg (by omega), if_neg (by omega), if_neg (by omega), if_pos e]
  · rw [if_neg e]
    simp only [eq_false e, if_false]
theorem wRA_2 {KP rW rS rA rB sA oA X : Nat → Int32} : zup (wRA h KP rW rS rA rB sA oA) 677 (zI32 4 X) = wRA h KP X rS rA rB sA oA := by
  unfold wRA
  funext k
  unfold zup
  by_cases e : k = 677
  · rw [if_pos e, if_neg (by omega), if_neg (by omega), if_neg (by omega), if_neg (by omega), if_neg (by omega), if_pos e]
  · rw [if_neg e]
    simp only [eq_false e, if_false]
theorem wRA_3 {KP rW rS rA rB sA oA X : Nat → Int32} : zup (wRA h KP rW rS rA rB sA oA) 678 (zI32 4 X) = wRA h KP rW X rA rB sA oA := by
  unfold wRA
  funext k
  unfold zup
  by_cases e : k = 678
  · rw [if_pos e, if_neg (by omega), if_neg (by omega), if_neg (by omega), if_neg (by omega), if_pos e]
  · rw [if_neg e]
    simp only [eq_false e, if_false]
theorem wRA_4 {KP rW rS rA rB sA oA X : Nat → Int32} : zup (wRA h KP rW rS rA rB sA oA) 679 (zI32 4 X) = wRA h KP rW rS X rB sA oA := by
  unfold wRA
  funext k
  unfold zup
  by_cases e : k = 679
  · rw [if_pos e, if_neg (by omega), if_neg (by omega), if_neg (by omega), if_pos e]
  · rw [if_neg e]
    simp only [eq_false e, if_false]
theorem wRA_5 {KP rW rS rA rB sA oA X : Nat → Int32} : zup (wRA h KP rW rS rA rB sA oA) 680 (zI32 4 X) = wRA h KP rW rS rA X sA oA := by
  unfold wRA
  funext k
  unfold zup
  by_cases e : k = 680
  · rw [if_pos e, if_neg (by omega), if_neg (by omega), if_pos e]
  · rw [if_neg e]
    simp only [eq_false e, if_false]
theorem wRA_6 {KP rW rS rA rB sA oA X : Nat → Int32} : zup (wRA h KP rW rS rA rB sA oA) 681 (zI32 4 X) = wRA h KP rW rS rA rB X oA := by
  unfold wRA
  funext k
  unfold zup
  by_cases e : k = 681
  · rw [if_pos e, if_neg (by omega), if_pos e]
  · rw [if_neg e]
    simp only [eq_false e, if_false]
theorem wRA_7 {KP rW rS rA rB sA oA X : Nat → Int32} : zup (wRA h KP rW rS rA rB sA oA) 682 (zI32 4 X) = wRA h KP rW rS rA rB sA X := by
  unfold wRA
  rw [zup_zup]
/-- the model's heap while a run is looked at -/
def mR (h : zH) (KP rW rS rA rB sA oA m r : Nat → Int32) : zH := mh (wRA h KP rW rS rA rB sA oA) m r
theorem mR_RA {KP rW rS rA rB sA oA r : Nat → Int32} : RA (mR h KP rW rS rA rB sA oA m r) KP rW rS rA rB sA oA := by
  obtain ⟨a, b, c, d, e, f, i⟩ := wRA_RA (h := h) (KP := KP) (rW := rW) (rS := rS) (rA := rA) (rB := rB) (sA := sA) (oA := oA)
  unfold mR
  refine ⟨?_, ?_, ?_, ?_, ?_, ?_, ?_⟩ <;> rw [mh_ne (by omega) (by omega)] <;> assumption
section MRW
variable {KP rW rS rA rB sA oA r X : Nat → Int32}
theorem mR_670 : mR h KP rW rS rA rB sA oA m r 670 = MO m := mh_670
theorem mR_now : zrR (mR h KP rW rS rA rB sA oA m r) 670 7 7 = some 675 := mh_now
theorem mR_rf : zrR (mR h KP rW rS rA rB sA oA m r) 670 7 12 = some 676 ∧ zrR (mR h KP rW rS rA rB sA oA m r) 670 7 13 = some 677 ∧ zrR (mR h KP rW rS rA rB sA oA m r) 670 7 14 = some 678 ∧ zrR (mR h KP rW rS rA rB sA oA m r) 670 7 15 = some 679 ∧ zrR (mR h KP rW rS rA rB sA oA m r) 670 7 16 = some 680 ∧ zrR (mR h KP rW rS rA rB sA oA m r) 670 7 17 = some 681 ∧ zrR (mR h KP rW rS rA rB sA oA m r) 670 7 18 = some 682 := by
  obtain ⟨-, -, -, -, -, a, b, c, d, e, f, i, -⟩ := MO_ref (mR h KP rW rS rA rB sA oA m r) m mR_670
  exact ⟨a, b, c, d, e, f, i⟩
theorem mR_l1 {j : Nat} (q : j < 364) : zaI (mR h KP rW rS rA rB sA oA m r) 676 (nI j) = some (KP j) := zA32_of mR_RA.1 q (by omega)
theorem mR_l2 {j : Nat} (q : j < 4) : zaI (mR h KP rW rS rA rB sA oA m r) 677 (nI j) = some (rW j) := zA32_of mR_RA.2.1 q (by omega)
theorem mR_l3 {j : Nat} (q : j < 4) : zaI (mR h KP rW rS rA rB sA oA m r) 678 (nI j) = some (rS j) := zA32_of mR_RA.2.2.1 q (by omega)
theorem mR_l4 {j : Nat} (q : j < 4) : zaI (mR h KP rW rS rA rB sA oA m r) 679 (nI j) = some (rA j) := zA32_of mR_RA.2.2.2.1 q (by omega)
theorem mR_l5 {j : Nat} (q : j < 4) : zaI (mR h KP rW rS rA rB sA oA m r) 680 (nI j) = some (rB j) := zA32_of mR_RA.2.2.2.2.1 q (by omega)
theorem mR_l6 {j : Nat} (q : j < 4) : zaI (mR h KP rW rS rA rB sA oA m r) 681 (nI j) = some (sA j) := zA32_of mR_RA.2.2.2.2.2.1 q (by omega)
theorem mR_l7 {j : Nat} (q : j < 4) : zaI (mR h KP rW rS rA rB sA oA m r) 682 (nI j) = some (oA j) := zA32_of mR_RA.2.2.2.2.2.2 q (by omega)
theorem mR_s1 {j : Nat} (q : j < 364) (x : Int32) : zsI (mR h KP rW rS rA rB sA oA m r) 676 (nI j) x = some (mR h (upd KP j x) rW rS rA rB sA oA m r) := by
  rw [zsI, zS32_of mR_RA.1 q (by omega)]
  unfold mR
  rw [mh_o (by omega) (by omega), wRA_1]
theorem mR_s2 {j : Nat} (q : j < 4) (x : Int32) : zsI (mR h KP rW rS rA rB sA oA m r) 677 (nI j) x = some (mR h KP (upd rW j x) rS rA rB sA oA m r) := by
  rw [zsI, zS32_of mR_RA.2.1 q (by omega)]
  unfold mR
  rw [mh_o (by omega) (by omega), wRA_2]
theorem mR_s3 {j : Nat} (q : j < 4) (x : Int32) : zsI (mR h KP rW rS rA rB sA oA m r) 678 (nI j) x = some (mR h KP rW (upd rS j x) rA rB sA oA m r) := by
  rw [zsI, zS32_of mR_RA.2.2.1 q (by omega)]
  unfold mR
  rw [mh_o (by omega) (by omega), wRA_3]
theorem mR_s4 {j : Nat} (q : j < 4) (x : Int32) : zsI (mR h KP rW rS rA rB sA oA m r) 679 (nI j) x = some (mR h KP rW rS (upd rA j x) rB sA oA m r) := by
  rw [zsI, zS32_of mR_RA.2.2.2.1 q (by omega)]
  unfold mR
  rw [mh_o (by omega) (by omega), wRA_4]
theorem mR_s5 {j : Nat} (q : j < 4) (x : Int32) : zsI (mR h KP rW rS rA rB sA oA m r) 680 (nI j) x = some (mR h KP rW rS rA (upd rB j x) sA oA m r) := by
  rw [zsI, zS32_of mR_RA.2.2.2.2.1 q (by omega)]
  unfold mR
  rw [mh_o (by omega) (by omega), wRA_5]
theorem mR_s6 {j : Nat} (q : j < 4) (x : Int32) : zsI (mR h KP rW rS rA rB sA oA m r) 681 (nI j) x = some (mR h KP rW rS rA rB (upd sA j x) oA m r) := by
  rw [zsI, zS32_of mR_RA.2.2.2.2.2.1 q (by omega)]
  unfold mR
  rw [mh_o (by omega) (by omega), wRA_6]
theorem mR_s7 {j : Nat} (q : j < 4) (x : Int32) : zsI (mR h KP rW rS rA rB sA oA m r) 682 (nI j) x = some (mR h KP rW rS rA rB sA (upd oA j x) m r) := by
  rw [zsI, zS32_of mR_RA.2.2.2.2.2.2 q (by omega)]
  unfold mR
  rw [mh_o (by omega) (by omega), wRA_7]
theorem mR_ld {j : Nat} (q : j < 91) : zaI (mR h KP rW rS rA rB sA oA m r) 675 (nI j) = some (r j) := mh_ld q
theorem mR_st {j : Nat} (q : j < 91) (x : Int32) : zsI (mR h KP rW rS rA rB sA oA m r) 675 (nI j) x = some (mR h KP rW rS rA rB sA oA m (upd r j x)) := mh_st q x
theorem mR_w {j : Nat} (x : Int32) (q : mosc j) : zwI (mR h KP rW rS rA rB sA oA m r) 670 7 j x = some (mR h KP rW rS rA rB sA oA (upd m j x) r) := mh_w x q
theorem mR_rd {j : Nat} (q : mosc j) : zrI (mR h KP rW rS rA rB sA oA m r) 670 7 j = some (m j) := MO_rd _ _ q mR_670
theorem mR_cv {α : Type} (o : Option α) : zcv (mR h KP rW rS rA rB sA oA m r) 670 7 o = o := mh_cv o
theorem M_tk17 {a : Nat} (ha : a < 4) : ∀ (d j f : Nat) (r : Nat → Int32), 91 - j = d → j ≤ 91 → d < f → zloop (g_Model_takeRun_17 670 (nI a)) f (nI j, mR h KP rW rS rA rB sA oA m r) = some (mR h KP rW rS rA rB sA oA (upd (upd m 8 (rA a)) 9 (rB a)) (fun k => if j ≤ k ∧ k < 91 then KP (91 * a + k) else r k)) := by
  intro d
  induction d with
  | zero =>
    intro j f r hd hj hf
    obtain ⟨f, rfl⟩ : ∃ k, f = k + 1 := ⟨f - 1, by omega⟩
    show g_Model_takeRun_17 670 (nI a) _ (nI j, mR h KP rW rS rA rB sA oA m r) = _
    have c : (91 ≤ j) = True := eq_true (by omega)
    have e : (fun k => if j ≤ k ∧ k < 91 then KP (91 * a + k) else r k) = r := funext fun k => if_neg (by omega)
    rw [e]
    simp (disch := omega) only [g_Model_takeRun_17, nI_le_iff, c, if_true, mR_rf, bind_some', mR_l4, mR_w _ (by unfold mosc; omega : mosc 8), mR_l5, mR_w _ (by unfold mosc; omega : mosc 9)]
  | succ d ih =>
    intro j f r hd hj hf
    obtain ⟨f, rfl⟩ : ∃ k, f = k + 1 := ⟨f - 1, by omega⟩
    show g_Model_takeRun_17 670 (nI a) (zloop (g_Model_takeRun_17 670 (nI a)) f) (nI j, mR h KP rW rS rA rB sA oA m r) = _
    have c : (91 ≤ j) = False := eq_false (by omega)
    simp (disch := omega) only [g_Model_takeRun_17, nI_le_iff, c, if_false, mR_rf, mR_now, bind_some', pk_mul, nI_add, mR_l1, mR_st]
    rw [ih (j + 1) f _ (by omega) (by omega) (by omega)]
    refine congrArg (fun z => some (mR h KP rW rS rA rB sA oA _ z)) (funext fun k => ?_)
    unfold upd
    by_cases e1 : k = j
    · rw [if_neg (by omega), if_pos e1, if_pos (by omega), e1]
    · by_cases e2 : j ≤ k ∧ k < 91
      · rw [if_pos (by omega), if_pos e2]
      · rw [if_neg (by omega), if_neg e1, if_neg e2]
theorem M_takeRun {a w : Nat} {Kf : Nat → Int32} (ha : a < 4) (h674 : h 674 = zI32 10 Kf) (hw : w < 10) (hk : Kf w = nI kd) (hrW : rW a = nI w) (hK : ∀ k, k < 91 → KP (91 * a + k) = ph fm n g k) (hA : rA a = g 121) (hB : rB a = g 122) (hr : ∀ k, 91 ≤ k → r k = 0) : m_Model_takeRun 670 (nI a) (mR h KP rW rS rA rB sA oA m r) = some (mR h KP rW rS rA rB sA oA (ms m kd (m 11) 0 0 g) (ph fm n g)) := by
  have z := zN_big
  have e674 : mR h KP rW rS rA rB sA oA m r 674 = zI32 10 Kf := by
    unfold mR
    rw [mh_ne (by omega) (by omega), wRA_ne (by omega)]
    exact h674
  have l674 : zaI (mR h KP rW rS rA rB sA oA m r) 674 (nI w) = some (nI kd) := by rw [zaI, zA32_of e674 hw (by omega), hk]
  have r5 : zrR (mR h KP rW rS rA rB sA oA m r) 670 7 5 = some 674 := (MO_ref _ _ mR_670).2.2.2.1
  simp (disch := omega) only [m_Model_takeRun, r5, bind_some', mR_rf, mR_l2, hrW, l674, mR_w _ (by unfold mosc; omega : mosc 10)]
  rw [M_tk17 ha 91 0 zN r (by omega) (by omega) (by omega)]
  have e1 : upd (upd (upd m 10 (nI kd)) 8 (rA a)) 9 (rB a) = ms m kd (m 11) 0 0 g := by
    funext j
    unfold upd ms
    rw [hA, hB, Int32.add_zero, Int32.add_zero]
    by_cases a : j = 9
    · rw [if_pos a, if_neg (by omega), if_pos a]
    · rw [if_neg a]
      by_cases b : j = 8
      · rw [if_pos b, if_pos b]
      · rw [if_neg b, if_neg b, if_neg a]
        by_cases c : j = 10
        · rw [if_pos c, if_pos c]
        · rw [if_neg c, if_neg c]
          by_cases d : j = 11
          · rw [if_pos d, d]
          · rw [if_neg d]
  rw [e1]
  refine congrArg (fun z => some (mR h KP rW rS rA rB sA oA _ z)) (funext fun k => ?_)
  rcases Nat.lt_or_ge k 91 with q | q
  · rw [if_pos (by omega)]
    exact hK k q
  · rw [if_neg (by omega), ph_hi q]
    exact hr k q
def kpU (KP : Nat → Int32) (a : Nat) (r : Nat → Int32) : Nat → Int32 := fun k => if 91 * a ≤ k ∧ k < 91 * a + 91 then r (k - 91 * a) else KP k
theorem M_kr2 {a : Nat} (ha : a < 4) : ∀ (d j f : Nat) (KP : Nat → Int32), 91 - j = d → j ≤ 91 → d < f → zloop (g_Model_keepRun_2 670 (nI a)) f (nI j, mR h KP rW rS rA rB sA oA m r) = some (mR h (fun k => if 91 * a + j ≤ k ∧ k < 91 * a + 91 then r (k - 91 * a) else KP k) rW rS (upd rA a (m 8)) (upd rB a (m 9)) sA oA m r) := by
  intro d
  induction d with
  | zero =>
    intro j f KP hd hj hf
    obtain ⟨f, rfl⟩ : ∃ k, f = k + 1 := ⟨f - 1, by omega⟩
    show g_Model_keepRun_2 670 (nI a) _ (nI j, mR h KP rW rS rA rB sA oA m r) = _
    have c : (91 ≤ j) = True := eq_true (by omega)
    have e : (fun k => if 91 * a + j ≤ k ∧ k < 91 * a + 91 then r (k - 91 * a) else KP k) = KP := funext fun k => if_neg (by omega)
    rw [e]
    simp (disch := omega) only [g_Model_keepRun_2, nI_le_iff, c, if_true, mR_rf, bind_some', mR_rd (by unfold mosc; omega : mosc 8), mR_s4, mR_rd (by unfold mosc; omega : mosc 9), mR_s5]
  | succ d ih =>
    intro j f KP hd hj hf
    obtain ⟨f, rfl⟩ : ∃ k, f = k + 1 := ⟨f - 1, by omega⟩
    show g_Model_keepRun_2 670 (nI a) (zloop (g_Model_keepRun_2 670 (nI a)) f) (nI j, mR h KP rW rS rA rB sA oA m r) = _
    have c : (91 ≤ j) = False := eq_false (by omega)
    simp (disch := omega) only [g_Model_keepRun_2, nI_le_iff, c, if_false, mR_rf, mR_now, bind_some', pk_mul, nI_add, mR_s1, mR_ld]
    rw [ih (j + 1) f _ (by omega) (by omega) (by omega)]
    refine congrArg (fun z => some (mR h z rW rS _ _ sA oA m r)) (funext fun k => ?_)
    unfold upd
    by_cases e1 : k = 91 * a + j
    · rw [if_neg (by omega), if_pos e1, if_pos (by omega), e1]
      exact congrArg r (by omega)
    · by_cases e2 : 91 * a + j ≤ k ∧ k < 91 * a + 91
      · rw [if_pos (by omega), if_pos e2]
      · rw [if_neg (by omega), if_neg e1, if_neg e2]
theorem M_keepRun {a : Nat} (ha : a < 4) : m_Model_keepRun 670 (nI a) (mR h KP rW rS rA rB sA oA m r) = some (mR h (kpU KP a r) rW rS (upd rA a (m 8)) (upd rB a (m 9)) sA oA m r) := by
  have z := zN_big
  unfold m_Model_keepRun
  rw [M_kr2 ha 91 0 zN KP (by omega) (by omega) (by omega)]
  rfl
theorem M_so76 {a : Nat} (ha : a < 4) (hc : rS a = nI c) (hoa : oA a = -2 ∨ ∃ x, x < 2 ^ 31 ∧ oA a = nI x) (y : Int32) (hn : n ≤ 6) (h4 : m 4 = nI n) (hb : ∀ hh, n ≤ hh → hh < 6 → g hh = 0) : g_Model_stepOf_76 670 (nI a) 681 (nI a) y (mR h KP rW rS rA rB sA oA (ms m kd fu d1 d2 g) (ph fm n g)) = some (nI c, mR h KP rW rS rA rB (upd sA a y) (upd oA a (oaN g c (oA a))) (ms m kd fu d1 d2 g) (ph fm n g)) := by
  have io : ∀ sA oA : Nat → Int32, m_Model_isOver 670 (mR h KP rW rS rA rB sA oA (ms m kd fu d1 d2 g) (ph fm n g)) = some (ovN g) := fun sA oA => M_isOver (h := wRA h KP rW rS rA rB sA oA) (fm := fm) (kd := kd) (fu := fu) (d1 := d1) (d2 := d2) hn h4 hb
  have n1 := nI1_0
  have n0 := nI0_0
  by_cases z : ovr g
  · have e : oaN g c (oA a) = if oA a = -2 then nI c else oA a := @if_pos _ (Classical.propDecidable _) z _ _ _
    rw [e]
    rcases hoa with q | ⟨x, hx, q⟩
    · have q2 : ((0 : Int32) ≤ oA a) = False := by rw [q]; decide
      rw [if_pos q]
      simp (disch := omega) only [g_Model_stepOf_76, mR_s6, bind_some', mR_rf, mR_cv, io, ovN_1 z, n1, if_false, mR_l7, q2, mR_l3, hc, mR_s7]
    · have q2 : ((0 : Int32) ≤ oA a) = True := by rw [q]; exact eq_true (nI_pos' hx)
      have q3 : ¬ oA a = -2 := fun w => by
        rw [w] at q2
        exact absurd (of_eq_true q2) (by decide)
      rw [if_neg q3]
      simp (disch := omega) only [g_Model_stepOf_76, mR_s6, bind_some', mR_rf, mR_cv, io, ovN_1 z, n1, if_false, mR_l7, q2, if_true, mR_s7, mR_l3, hc]
  · have e : oaN g c (oA a) = -2 := @if_neg _ (Classical.propDecidable _) z _ _ _
    rw [e]
    simp (disch := omega) only [g_Model_stepOf_76, mR_s6, bind_some', mR_rf, mR_cv, io, ovN_0 z, n0, if_true, mR_s7, mR_l3, hc]
theorem kpU_in {a k : Nat} (q : k < 91) : kpU KP a r (91 * a + k) = r k := by
  unfold kpU
  rw [if_pos (by omega)]
  exact congrArg r (by omega)
theorem kpU_ne {a b k : Nat} (q : k < 91) (e : b ≠ a) : kpU KP a r (91 * b + k) = KP (91 * b + k) := by
  unfold kpU
  rw [if_neg (by omega)]
theorem M_stepOf {a w sort : Nat} {i : Int32} {Kf : Nat → Int32} (ha : a < 4) (h674 : h 674 = zI32 10 Kf) (hw : w < 10) (hkw : Kf w = nI kd) (hrW : rW a = nI w) (hK : ∀ k, k < 91 → KP (91 * a + k) = ph fm n g k) (hA : rA a = g 121) (hB : rB a = g 122) (hr : ∀ k, 91 ≤ k → r k = 0) (hS : rS a = nI c)
    (hsa : sA a = -2 ∨ ∃ x, x < 2 ^ 31 ∧ sA a = nI x) (hoa : oA a = -2 ∨ ∃ x, x < 2 ^ 31 ∧ oA a = nI x) (hkd : kd < 9) (hf : fm = fmo kd) (hn : n ≤ 6) (hn0 : 0 < n) (h4 : m 4 = nI n) (hc : c ≤ 1000000) (hs : sort < 5) (H : MU n nw go h) (hgo : ∀ hh, hh < n → ∀ l i, i < nw hh l → go hh l i < 6) (hnw : ∀ hh, hh < n → ∀ l, nw hh l ≤ 270) (hV : IV fm n c 0 g) :
    ((aStep kd fm n nw go sort i g).1 = nI 1 ∧ m_Model_stepOf 670 (nI a) (nI sort) i (mR h KP rW rS rA rB sA oA m r) = some (nI (c + 1), mR h (kpU KP a (ph fm n (aStep kd fm n nw go sort i g).2)) rW (upd rS a (nI (c + 1))) (upd rA a ((aStep kd fm n nw go sort i g).2 121)) (upd rB a ((aStep kd fm n nw go sort i g).2 122)) (upd sA a (saN (aStep kd fm n nw go sort i g).2 (c + 1) (sA a))) (upd oA a (oaN (aStep kd fm n nw go sort i g).2 (c + 1) (oA a))) (ms m kd (nI 0) 0 0 (aStep kd fm n nw go sort i g).2) (ph fm n (aStep kd fm n nw go sort i g).2)))
    ∨ (((aStep kd fm n nw go sort i g).1 = -3 ∨ (aStep kd fm n nw go sort i g).1 = -5) ∧ ∃ fu g', m_Model_stepOf 670 (nI a) (nI sort) i (mR h KP rW rS rA rB sA oA m r) = some ((aStep kd fm n nw go sort i g).1, mR h KP rW rS rA rB sA oA (ms m kd fu 0 0 g') (ph fm n g'))) := by
  have hfm : fm < 6 := by rw [hf]; exact fmo_lt kd
  have H' : MU n nw go (wRA h KP rW rS rA rB sA oA) := fun hh q => by
    obtain ⟨L, x, y, z, t⟩ := H hh q
    exact ⟨L, x, y, z, fun h' m' e1 e2 e3 => t h' m' e1 (e2.trans (wRA_ne (by omega))) (e3.trans (wRA_ne (by omega)))⟩
  have tk := M_takeRun (m := m) (rS := rS) (sA := sA) (oA := oA) ha h674 hw hkw hrW hK hA hB hr
  have ds := M_doStep (m := m) (fu := m 11) (d1 := 0) (d2 := 0) hs i hkd hf hn hn0 h4 hc H' hgo hnw hV
  have hst : (aStep kd fm n nw go sort i g).1 = nI 1 → IV fm n (c + 1) 0 (aStep kd fm n nw go sort i g).2 := fun e => hV.step hn hn0 hfm hc hnw e
  revert ds hst
  generalize aStep kd fm n nw go sort i g = p
  intro ds hst
  have n1 : ((0 : Int32) ≤ nI 1) = True := eq_true (nI_pos' (by omega))
  rcases ds with ⟨e, y⟩ | ⟨e, fu, g', -, y⟩
  · refine Or.inl ⟨e, ?_⟩
    have hb := (hst e).2.2.1.2.1
    have e8 : ms m kd (nI 0) 0 0 p.2 8 = p.2 121 := by
      unfold ms
      rw [if_pos rfl, Int32.add_zero]
    have e9 : ms m kd (nI 0) 0 0 p.2 9 = p.2 122 := by
      unfold ms
      rw [if_neg (by omega), if_pos rfl, Int32.add_zero]
    have e87 : ph fm n p.2 87 = p.2 120 := ph_rd pm_c.2.2.2.1
    have y' : m_Model_doStep 670 (nI sort) i (mR h KP rW rS rA rB sA oA (ms m kd (m 11) 0 0 g) (ph fm n g)) = some (nI 1, mR h KP rW rS rA rB sA oA (ms m kd (nI 0) 0 0 p.2) (ph fm n p.2)) := y
    have so := fun y => M_so76 (h := h) (KP := kpU KP a (ph fm n p.2)) (rW := rW) (rS := upd rS a (nI (c + 1))) (rA := upd rA a (p.2 121)) (rB := upd rB a (p.2 122)) (sA := sA) (oA := oA) (g := p.2) (fm := fm) (kd := kd) (fu := nI 0) (d1 := 0) (d2 := 0) (c := c + 1) ha (by rw [upd_eq]) hoa y hn h4 hb
    have eS : upd rS a (nI (c + 1)) a = nI (c + 1) := upd_eq _ _ _
    have s1 : nI c + nI 1 = nI (c + 1) := nI_add c 1
    unfold saN
    by_cases z : p.2 120 = nI 1
    · rcases hsa with q | ⟨x, hx, q⟩
      · have q2 : ((0 : Int32) ≤ sA a) = False := by rw [q]; decide
        rw [if_pos ⟨z, q⟩]
        simp (disch := omega) only [m_Model_stepOf, mR_cv, tk, bind_some', y', zb2_some, n1, if_true, M_keepRun, mR_rf, mR_l3, hS, s1, mR_s3, mR_now, mR_ld, e87, eq_true z, mR_l6, q2, if_false, eS, e8, e9, so]
      · have q2 : ((0 : Int32) ≤ sA a) = True := by rw [q]; exact eq_true (nI_pos' hx)
        have q3 : ¬ sA a = -2 := fun w => by
          rw [w] at q2
          exact absurd (of_eq_true q2) (by decide)
        rw [if_neg (fun w => q3 w.2)]
        simp (disch := omega) only [m_Model_stepOf, mR_cv, tk, bind_some', y', zb2_some, n1, if_true, M_keepRun, mR_rf, mR_l3, hS, s1, mR_s3, mR_now, mR_ld, e87, eq_true z, mR_l6, q2, e8, e9, so]
    · rw [if_neg (fun w => z w.1)]
      simp (disch := omega) only [m_Model_stepOf, mR_cv, tk, bind_some', y', zb2_some, n1, if_true, M_keepRun, mR_rf, mR_l3, hS, s1, mR_s3, mR_now, mR_ld, e87, eq_false z, if_false, mR_l6, e8, e9, so]
  · refine Or.inr ⟨e, fu, g', ?_⟩
    have y' : m_Model_doStep 670 (nI sort) i (mR h KP rW rS rA rB sA oA (ms m kd (m 11) 0 0 g) (ph fm n g)) = some (p.1, mR h KP rW rS rA rB sA oA (ms m kd fu 0 0 g') (ph fm n g')) := y
    have n2 : ((0 : Int32) ≤ p.1) = False := by rcases e with e | e <;> rw [e] <;> decide
    simp only [m_Model_stepOf, mR_cv, tk, bind_some', y', zb2_some, n2, if_false]
end MRW
end MRV
