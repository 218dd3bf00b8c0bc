/-! THE MODEL'S BEGINNING; RUNS TAKEN AND KEPT -/
def bR (fm n k : Nat) : Int32 := if k = 5 then (if fm = 2 then nI 1 else nI 0) else if fm = 1 ∧ (k = 86 ∨ k = 3) then nI 64 else if k = 1 ∨ k = 0 then nI 1 else if k % 6 = 4 ∧ k < 6 * n then (if fm = 2 then -1 else nI 0) else nI 0
theorem bR_tab : ∀ fm, fm < 6 → ∀ n, n < 7 → ∀ k, k < 91 → ph fm n (g0 fm) k = bR fm n k := by decide +kernel
section MRU
variable {h : zH} {m g : Nat → Int32} {fm n kd c : Nat} {fu d1 d2 : Int32}
theorem mh_4 {r : Nat → Int32} (h4 : m 4 = nI n) : zrI (mh h m r) 670 7 4 = some (nI n) := by rw [MO_rd _ _ (by unfold mosc; omega) mh_670]; exact congrArg some h4
theorem mh_w {r : Nat → Int32} {j : Nat} (x : Int32) (q : mosc j) : zwI (mh h m r) 670 7 j x = some (mh h (upd m j x) r) := by rw [MO_wr _ _ _ q mh_670, mh_m]
def bM (m : Nat → Int32) : Nat → Int32 := upd (upd m 8 (nI 0)) 9 (nI 0)
theorem M_beg121 {r : Nat → Int32} {j : Nat} (q : j < 91) : g_Model_begin_121 670 675 (nI j) (mh h m r) = some (mh h (bM m) (upd r j (nI 1))) := by
  simp (disch := omega) only [g_Model_begin_121, mh_st, bind_some', mh_w _ (by unfold mosc; omega : mosc 8), mh_w _ (by unfold mosc; omega : mosc 9)]
  rfl
theorem M_beg105 {r : Nat → Int32} (hkd : kd < 9) (hf : fm = fmo kd) : g_Model_begin_105 670 (nI kd) (mh h m r) = some (mh h (bM m) (upd r 5 (if fm = 2 then nI 1 else nI 0))) := by
  by_cases a : kd = 2
  · have e : fm = 2 := by rw [hf, a]; rfl
    rw [if_pos e]
    simp (disch := omega) only [g_Model_begin_105, mh_now, bind_some', nI_eq_iff, eq_true a, if_true, M_beg121]
  · by_cases b : kd = 6
    · have e : fm = 2 := by rw [hf, b]; rfl
      rw [if_pos e]
      simp (disch := omega) only [g_Model_begin_105, mh_now, bind_some', nI_eq_iff, eq_false a, if_false, eq_true b, if_true, M_beg121]
    · have e : ¬ fm = 2 := by
        rw [hf]
        rcases (show kd = 0 ∨ kd = 1 ∨ kd = 3 ∨ kd = 4 ∨ kd = 5 ∨ kd = 7 ∨ kd = 8 by omega) with rfl | rfl | rfl | rfl | rfl | rfl | rfl <;> decide
      rw [if_neg e]
      simp (disch := omega) only [g_Model_begin_105, mh_now, bind_some', nI_eq_iff, eq_false a, if_false, eq_false b, mh_st, mh_w _ (by unfold mosc; omega : mosc 8), mh_w _ (by unfold mosc; omega : mosc 9)]
      rfl
def b28 (fm : Nat) (r : Nat → Int32) : Nat → Int32 := upd (if fm = 1 then upd (upd (upd (upd r 0 (nI 1)) 1 (nI 1)) 3 (nI 64)) 86 (nI 64) else upd (upd r 0 (nI 1)) 1 (nI 1)) 5 (if fm = 2 then nI 1 else nI 0)
theorem M_beg28 (hkd : kd < 9) (hf : fm = fmo kd) (hn : n ≤ 6) (h4 : m 4 = nI n) : ∀ (d j f : Nat) (r : Nat → Int32), n - j = d → j ≤ n → d < f → zloop (g_Model_begin_28 670 (nI kd)) f (nI j, mh h m r) = some (mh h (bM m) (b28 fm (fun k => if k % 6 = 4 ∧ 6 * j ≤ k ∧ k < 6 * n then (if fm = 2 then -1 else nI 0) else r k))) := by
  have k1 := M_k1 hkd hf
  intro d
  induction d with
  | zero =>
    intro j f r hd hj hf'
    obtain ⟨f, rfl⟩ : ∃ k, f = k + 1 := ⟨f - 1, by omega⟩
    show g_Model_begin_28 670 (nI kd) _ (nI j, mh h m r) = _
    have c : (n ≤ j) = True := eq_true (by omega)
    have e : (fun k => if k % 6 = 4 ∧ 6 * j ≤ k ∧ k < 6 * n then (if fm = 2 then -1 else nI 0) else r k) = r := funext fun k => if_neg (by omega)
    rw [e]
    unfold b28
    by_cases f1 : fm = 1
    · rw [if_pos f1]
      simp (disch := omega) only [g_Model_begin_28, mh_4 h4, bind_some', nI_le_iff, c, if_true, mh_now, mh_st, k1, eq_true f1, M_beg105 hkd hf]
    · rw [if_neg f1]
      simp (disch := omega) only [g_Model_begin_28, mh_4 h4, bind_some', nI_le_iff, c, if_true, mh_now, mh_st, k1, eq_false f1, if_false, M_beg105 hkd hf]
  | succ d ih =>
    intro j f r hd hj hf'
    obtain ⟨f, rfl⟩ : ∃ k, f = k + 1 := ⟨f - 1, by omega⟩
    have c : (n ≤ j) = False := eq_false (by omega)
    have e : g_Model_begin_28 670 (nI kd) (zloop (g_Model_begin_28 670 (nI kd)) f) (nI j, mh h m r) = zloop (g_Model_begin_28 670 (nI kd)) f (nI (j + 1), mh h m (upd r (6 * j + 4) (if fm = 2 then -1 else nI 0))) := by
      by_cases a : kd = 2
      · have e : fm = 2 := by rw [hf, a]; rfl
        rw [if_pos e]
        simp (disch := omega) only [g_Model_begin_28, mh_4 h4, bind_some', nI_le_iff, c, if_false, mh_now, nI_eq_iff, eq_true a, if_true, pk_mul, nI_add, mh_st]
      · by_cases b : kd = 6
        · have e : fm = 2 := by rw [hf, b]; rfl
          rw [if_pos e]
          simp (disch := omega) only [g_Model_begin_28, mh_4 h4, bind_some', nI_le_iff, c, if_false, mh_now, nI_eq_iff, eq_false a, eq_true b, if_true, pk_mul, nI_add, mh_st]
        · have e : ¬ fm = 2 := by
            rw [hf]
            rcases (show kd = 0 ∨ kd = 1 ∨ kd = 3 ∨ kd = 4 ∨ kd = 5 ∨ kd = 7 ∨ kd = 8 by omega) with rfl | rfl | rfl | rfl | rfl | rfl | rfl <;> decide
          rw [if_neg e]
          simp (disch := omega) only [g_Model_begin_28, mh_4 h4, bind_some', nI_le_iff, c, if_false, mh_now, nI_eq_iff, eq_false a, eq_false b, pk_mul, nI_add, mh_st]
    show g_Model_begin_28 670 (nI kd) (zloop (g_Model_begin_28 670 (nI kd)) f) (nI j, mh h m r) = _
    rw [e, ih (j + 1) f _ (by omega) (by omega) (by omega)]
    refine congrArg (fun z => some (mh h (bM m) (b28 fm z))) (funext fun k => ?_)
    unfold upd
    by_cases e1 : k = 6 * j + 4
    · rw [if_neg (by omega), if_pos e1, if_pos (show k % 6 = 4 ∧ 6 * j ≤ k ∧ k < 6 * n by omega)]
    · by_cases e2 : k % 6 = 4 ∧ 6 * j ≤ k ∧ k < 6 * n
      · rw [if_pos (by omega), if_pos e2]
      · rw [if_neg (by omega), if_neg e1, if_neg e2]
theorem M_beg7 (hkd : kd < 9) (hf : fm = fmo kd) (hn : n ≤ 6) (h4 : m 4 = nI n) : ∀ (d j f : Nat) (r : Nat → Int32), 91 - j = d → j ≤ 91 → d < f → zloop (g_Model_begin_7 670 (nI kd)) f (nI j, mh h m r) = some (mh h (bM m) (b28 fm (fun k => if k % 6 = 4 ∧ 6 * 0 ≤ k ∧ k < 6 * n then (if fm = 2 then -1 else nI 0) else if j ≤ k ∧ k < 91 then nI 0 else r k))) := by
  intro d
  induction d with
  | zero =>
    intro j f r hd hj hf'
    obtain ⟨f, rfl⟩ : ∃ k, f = k + 1 := ⟨f - 1, by omega⟩
    show g_Model_begin_7 670 (nI kd) _ (nI j, mh h m r) = _
    have c : (91 ≤ j) = True := eq_true (by omega)
    have z := zN_big
    simp (disch := omega) only [g_Model_begin_7, nI_le_iff, c, if_true]
    rw [M_beg28 hkd hf hn h4 n 0 zN r (by omega) (by omega) (by omega)]
    refine congrArg (fun z => some (mh h (bM m) (b28 fm z))) (funext fun k => ?_)
    by_cases e : k % 6 = 4 ∧ 6 * 0 ≤ k ∧ k < 6 * n
    · rw [if_pos e, if_pos e]
    · rw [if_neg e, if_neg e, if_neg (by omega)]
  | succ d ih =>
    intro j f r hd hj hf'
    obtain ⟨f, rfl⟩ : ∃ k, f = k + 1 := ⟨f - 1, by omega⟩
    show g_Model_begin_7 670 (nI kd) (zloop (g_Model_begin_7 670 (nI kd)) f) (nI j, mh h m r) = _
    have c : (91 ≤ j) = False := eq_false (by omega)
    simp (disch := omega) only [g_Model_begin_7, nI_le_iff, c, if_false, mh_now, bind_some', mh_st, nI_add]
    rw [ih (j + 1) f _ (by omega) (by omega) (by omega)]
    refine congrArg (fun z => some (mh h (bM m) (b28 fm z))) (funext fun k => ?_)
    unfold upd
    by_cases e : k % 6 = 4 ∧ 6 * 0 ≤ k ∧ k < 6 * n
    · rw [if_pos e, if_pos e]
    · rw [if_neg e, if_neg e]
      by_cases e1 : k = j
      · rw [if_neg (by omega), if_pos e1, if_pos (by omega)]
      · by_cases e2 : j ≤ k ∧ k < 91
        · rw [if_pos (by omega), if_pos e2]
        · rw [if_neg (by omega), if_neg e1, if_neg e2]
theorem ms_beg (fm : Nat) : bM (upd m 10 (nI kd)) = ms m kd (m 11) 0 0 (g0 fm) := by
  funext j
  unfold bM ms upd
  have e1 : g0 fm 121 + 0 = nI 0 := by
    have : g0 fm 121 = 0 := by unfold g0; rw [if_neg (by omega), if_neg (by omega), if_neg (by omega), if_neg (by omega)]
    rw [this, nI_0]; rfl
  have e2 : g0 fm 122 + 0 = nI 0 := by
    have : g0 fm 122 = 0 := by unfold g0; rw [if_neg (by omega), if_neg (by omega), if_neg (by omega), if_neg (by omega)]
    rw [this, nI_0]; rfl
  rw [e1, e2]
  by_cases a : j = 9
  · rw [if_pos a, if_neg (by omega), if_pos a]
  · rw [if_neg a]
    by_cases b : j = 8
    · rw [if_pos b, if_pos b]
    · rw [if_neg b, if_neg b, if_neg a]
      by_cases c : j = 10
      · rw [if_pos c, if_pos c]
      · rw [if_neg c, if_neg c]
        by_cases d : j = 11
        · rw [if_pos d, d]
        · rw [if_neg d]
theorem M_begin {r : Nat → Int32} (hkd : kd < 9) (hf : fm = fmo kd) (hn : n ≤ 6) (h4 : m 4 = nI n) (hr : ∀ k, 91 ≤ k → r k = 0) : m_Model_begin 670 (nI kd) (mh h m r) = some (mg h m fm n kd (m 11) 0 0 (g0 fm)) := by
  have hfm : fm < 6 := by rw [hf]; exact fmo_lt kd
  have z := zN_big
  simp only [m_Model_begin, mh_w _ (by unfold mosc; omega : mosc 10), bind_some']
  rw [M_beg7 hkd hf hn (m := upd m 10 (nI kd)) (by rw [upd_ne (by omega)]; exact h4) 91 0 zN r (by omega) (by omega) (by omega), ms_beg fm]
  unfold mg
  refine congrArg (fun z => some (mh h _ z)) (funext fun k => ?_)
  rcases Nat.lt_or_ge k 91 with q | q
  · rw [bR_tab fm hfm n (by omega) k q]
    unfold b28 bR
    by_cases a5 : k = 5
    · rw [if_pos a5, a5, upd_eq]
    rw [if_neg a5, upd_ne a5]
    by_cases f1 : fm = 1
    · rw [if_pos f1]
      by_cases a86 : k = 86
      · rw [if_pos (show fm = 1 ∧ (k = 86 ∨ k = 3) from ⟨f1, Or.inl a86⟩), a86, upd_eq]
      rw [upd_ne a86]
      by_cases a3 : k = 3
      · rw [if_pos (show fm = 1 ∧ (k = 86 ∨ k = 3) from ⟨f1, Or.inr a3⟩), a3, upd_eq]
      rw [if_neg (show ¬ (fm = 1 ∧ (k = 86 ∨ k = 3)) by omega), upd_ne a3]
      by_cases a1 : k = 1
      · rw [if_pos (show k = 1 ∨ k = 0 from Or.inl a1), a1, upd_eq]
      rw [upd_ne a1]
      by_cases a0 : k = 0
      · rw [if_pos (show k = 1 ∨ k = 0 from Or.inr a0), a0, upd_eq]
      rw [if_neg (show ¬ (k = 1 ∨ k = 0) by omega), upd_ne a0]
      by_cases e : k % 6 = 4 ∧ 6 * 0 ≤ k ∧ k < 6 * n
      · rw [if_pos e, if_pos (show k % 6 = 4 ∧ k < 6 * n by omega)]
      · rw [if_neg e, if_pos (show 0 ≤ k ∧ k < 91 by omega), if_neg (show ¬ (k % 6 = 4 ∧ k < 6 * n) by omega)]
    · rw [if_neg f1, if_neg (show ¬ (fm = 1 ∧ (k = 86 ∨ k = 3)) from fun w => f1 w.1)]
      by_cases a1 : k = 1
      · rw [if_pos (show k = 1 ∨ k = 0 from Or.inl a1), a1, upd_eq]
      rw [upd_ne a1]
      by_cases a0 : k = 0
      · rw [if_pos (show k = 1 ∨ k = 0 from Or.inr a0), a0, upd_eq]
      rw [if_neg (show ¬ (k = 1 ∨ k = 0) by omega), upd_ne a0]
      by_cases e : k % 6 = 4 ∧ 6 * 0 ≤ k ∧ k < 6 * n
      · rw [if_pos e, if_pos (show k % 6 = 4 ∧ k < 6 * n by omega)]
      · rw [if_neg e, if_pos (show 0 ≤ k ∧ k < 91 by omega), if_neg (show ¬ (k % 6 = 4 ∧ k < 6 * n) by omega)]
  · rw [ph_hi q]
    unfold b28
    rw [upd_ne (by omega)]
    have e : ∀ r : Nat → Int32, (if fm = 1 then upd (upd (upd (upd r 0 (nI 1)) 1 (nI 1)) 3 (nI 64)) 86 (nI 64) else upd (upd r 0 (nI 1)) 1 (nI 1)) k = r k := by
      intro r
      split
      · rw [upd_ne (by omega), upd_ne (by omega), upd_ne (by omega), upd_ne (by omega)]
      · rw [upd_ne (by omega), upd_ne (by omega)]
    rw [e, if_neg (by omega), if_neg (by omega)]
    exact hr k q
end MRU
