/-! THE MODEL TAKES OUT -/
section MTO
variable {h : zH} {m : Nat → Int32}
theorem mh_now {r : Nat → Int32} : zrR (mh h m r) 670 7 7 = some 675 := (MO_ref _ _ mh_670).2.2.2.2.1
theorem mh_ld {r : Nat → Int32} {j : Nat} (q : j < 91) : zaI (mh h m r) 675 (nI j) = some (r j) := zA32_of mh_675 q (by omega)
theorem mh_st {r : Nat → Int32} {j : Nat} (q : j < 91) (x : Int32) : zsI (mh h m r) 675 (nI j) x = some (mh h m (upd r j x)) := by
  rw [zsI, zS32_of mh_675 q (by omega), mh_r]
theorem M_to2 {at_ n : Nat} (hat : at_ + 4 + 3 * n ≤ 91) : ∀ (d j f : Nat) (r : Nat → Int32), 3 - j = d → j ≤ 3 → d < f → zloop (g_Model_takeOut_53 670 (nI at_) (nI n)) f (nI j, mh h m r) = some (mh h m (upd (fun k => if at_ + 1 + 3 * n + j ≤ k ∧ k < at_ + 1 + 3 * n + 3 then 0 else r k) at_ (nI n))) := by
  intro d
  induction d with
  | zero =>
    intro j f r hd hj hf
    obtain ⟨f, rfl⟩ : ∃ k, f = k + 1 := ⟨f - 1, by omega⟩
    show g_Model_takeOut_53 670 (nI at_) (nI n) _ (nI j, mh h m r) = _
    have c : (3 ≤ j) = True := eq_true (by omega)
    simp (disch := omega) only [g_Model_takeOut_53, nI_le_iff, c, if_true, mh_now, bind_some', mh_st]
    refine congrArg (fun z => some (mh h m (upd z at_ (nI n)))) (funext fun k => ?_)
    rw [if_neg (by omega)]
  | succ d ih =>
    intro j f r hd hj hf
    obtain ⟨f, rfl⟩ : ∃ k, f = k + 1 := ⟨f - 1, by omega⟩
    show g_Model_takeOut_53 670 (nI at_) (nI n) (zloop (g_Model_takeOut_53 670 (nI at_) (nI n)) f) (nI j, mh h m r) = _
    have c : (3 ≤ j) = False := eq_false (by omega)
    simp (disch := omega) only [g_Model_takeOut_53, nI_le_iff, c, if_false, mh_now, bind_some', pk_mul, nI_add, mh_st]
    rw [ih (j + 1) f _ (by omega) (by omega) (by omega)]
    refine congrArg (fun z => some (mh h m (upd z at_ (nI n)))) (funext fun k => ?_)
    unfold upd
    by_cases e : k = at_ + 1 + 3 * n + j
    · rw [if_neg (by omega), if_pos e, if_pos (by omega)]
      exact nI_0
    · by_cases e2 : at_ + 1 + 3 * n + j ≤ k ∧ k < at_ + 1 + 3 * n + 3
      · rw [if_pos (by omega), if_pos e2]
      · rw [if_neg (by omega), if_neg e, if_neg e2]
def toR (r : Nat → Int32) (at_ i n : Nat) : Nat → Int32 := upd (fun k => if at_ + 1 + 3 * n + 0 ≤ k ∧ k < at_ + 1 + 3 * n + 3 then 0 else if at_ + 1 + i ≤ k ∧ k < at_ + 1 + 3 * n then r (k + 3) else r k) at_ (nI n)
theorem M_to1 {at_ n : Nat} (hat : at_ + 4 + 3 * n ≤ 91) : ∀ (d j f : Nat) (r : Nat → Int32), 3 * n - j = d → j ≤ 3 * n → d < f → zloop (g_Model_takeOut_14 670 (nI at_) (nI n)) f (nI j, mh h m r) = some (mh h m (toR r at_ j n)) := by
  intro d
  induction d with
  | zero =>
    intro j f r hd hj hf
    obtain ⟨f, rfl⟩ : ∃ k, f = k + 1 := ⟨f - 1, by omega⟩
    show g_Model_takeOut_14 670 (nI at_) (nI n) _ (nI j, mh h m r) = _
    have c : (3 * n ≤ j) = True := eq_true (by omega)
    have z := zN_big
    simp (disch := omega) only [g_Model_takeOut_14, pk_mul, nI_le_iff, c, if_true]
    rw [M_to2 hat 3 0 zN r (by omega) (by omega) (by omega)]
    refine congrArg (fun z => some (mh h m (upd z at_ (nI n)))) (funext fun k => ?_)
    by_cases e : at_ + 1 + 3 * n + 0 ≤ k ∧ k < at_ + 1 + 3 * n + 3
    · rw [if_pos e, if_pos e]
    · rw [if_neg e, if_neg e, if_neg (by omega)]
  | succ d ih =>
    intro j f r hd hj hf
    obtain ⟨f, rfl⟩ : ∃ k, f = k + 1 := ⟨f - 1, by omega⟩
    show g_Model_takeOut_14 670 (nI at_) (nI n) (zloop (g_Model_takeOut_14 670 (nI at_) (nI n)) f) (nI j, mh h m r) = _
    have c : (3 * n ≤ j) = False := eq_false (by omega)
    simp (disch := omega) only [g_Model_takeOut_14, pk_mul, nI_le_iff, c, if_false, mh_now, bind_some', nI_add, mh_st, mh_ld]
    rw [ih (j + 1) f _ (by omega) (by omega) (by omega)]
    unfold toR
    refine congrArg (fun z => some (mh h m (upd z at_ (nI n)))) (funext fun k => ?_)
    unfold upd
    by_cases e : at_ + 1 + 3 * n + 0 ≤ k ∧ k < at_ + 1 + 3 * n + 3
    · rw [if_pos e, if_pos e]
    · rw [if_neg e, if_neg e]
      by_cases e2 : k = at_ + 1 + j
      · rw [if_neg (by omega), if_pos e2, if_pos (by omega), show at_ + 4 + j = k + 3 by omega]
      · by_cases e3 : at_ + 1 + j ≤ k ∧ k < at_ + 1 + 3 * n
        · rw [if_pos (by omega), if_pos e3, if_neg (by omega)]
        · rw [if_neg (by omega), if_neg e3, if_neg e2]
theorem M_to {r : Nat → Int32} {at_ i n : Nat} (hat : at_ + 4 + 3 * n ≤ 91) (hi : i ≤ n) (hr : r at_ = nI (n + 1)) : m_Model_takeOut 670 (nI at_) (nI i) (mh h m r) = some (mh h m (toR r at_ (3 * i) n)) := by
  have z := zN_big
  have e : nI (n + 1) - nI 1 = nI n := by rw [nI_subn (by omega)]; rfl
  simp (disch := omega) only [m_Model_takeOut, mh_now, bind_some', mh_ld, hr, e, pk_mul]
  exact M_to1 hat _ _ zN r rfl (by omega) (by omega)
end MTO
theorem toR_ph {fm n : Nat} {g T : Nat → Int32} {at_ cc i k : Nat} (hfm : fm < 6) (hn : n ≤ 6) (hat : (at_ = 36 ∧ cc = 18) ∨ (at_ = 61 ∧ cc = 43)) (hk : k < 8) (hi : i ≤ k)
    (h1 : ∀ j t, j < 8 → t < 3 → T (cc + 1 + 8 * t + j) = if j < i then g (cc + 1 + 8 * t + j) else if j < 7 then g (cc + 1 + 8 * t + (j + 1)) else 0)
    (h2 : T cc = nI k) (h3 : ∀ c, ¬ (cc ≤ c ∧ c < cc + 25) → T c = g c)
    (h4 : ∀ j t, k < j → j < 8 → t < 3 → g (cc + 1 + 8 * t + j) = 0) : toR (ph fm n g) at_ (3 * i) k = ph fm n T := by
  funext x
  have pmx : ∀ j t, j < 8 → t < 3 → pm fm n (at_ + 1 + 3 * j + t) = some (cc + 1 + 8 * t + j) := by
    intro j t hj ht
    rcases hat with ⟨rfl, rfl⟩ | ⟨rfl, rfl⟩
    · exact pmW hj ht
    · exact pmN hj ht
  have pmc : pm fm n at_ = some cc := by
    rcases hat with ⟨rfl, rfl⟩ | ⟨rfl, rfl⟩
    · exact pm_c.1
    · exact pm_c.2.1
  unfold toR
  by_cases e : x = at_
  · subst e
    rw [upd_eq, ph_rd pmc, h2]
  rw [upd_ne e]
  by_cases e2 : at_ < x ∧ x < at_ + 25
  · obtain ⟨j, t, hj, ht, rfl⟩ : ∃ j t, j < 8 ∧ t < 3 ∧ x = at_ + 1 + 3 * j + t := ⟨(x - at_ - 1) / 3, (x - at_ - 1) % 3, by omega, by omega, by omega⟩
    rw [ph_rd (g := T) (pmx j t hj ht), h1 j t hj ht, ph_rd (g := g) (pmx j t hj ht)]
    by_cases e3 : j = k
    · rw [if_pos (by omega), if_neg (by omega)]
      by_cases e4 : j < 7
      · rw [if_pos e4, h4 (j + 1) t (by omega) (by omega) ht]
      · rw [if_neg e4]
    · rw [if_neg (by omega)]
      by_cases e4 : j < i
      · rw [if_neg (by omega), if_pos e4]
      · rw [if_neg e4]
        by_cases e5 : j < k
        · rw [if_pos (by omega), if_pos (by omega), show at_ + 1 + 3 * j + t + 3 = at_ + 1 + 3 * (j + 1) + t by omega, ph_rd (pmx (j + 1) t (by omega) ht)]
        · rw [if_neg (by omega), h4 j t (by omega) hj ht]
          by_cases e6 : j < 7
          · rw [if_pos e6, h4 (j + 1) t (by omega) (by omega) ht]
          · rw [if_neg e6]
  · rw [if_neg (by omega), if_neg (by omega)]
    unfold ph
    rcases hx : pm fm n x with _ | c
    · rfl
    · have x91 : x < 91 := by
        rcases Nat.lt_or_ge x 91 with h | h
        · exact h
        · rw [pm_hi h] at hx; cases hx
      refine (h3 c fun q => ?_).symm
      have e1 := (pm_tab fm hfm n (by omega) x x91 c hx).1
      unfold pq at e1
      rcases hat with ⟨rfl, rfl⟩ | ⟨rfl, rfl⟩
      · rw [if_neg (by omega)] at e1
        by_cases q2 : c = 18
        · rw [if_pos q2] at e1; omega
        · rw [if_neg q2, if_pos (by omega)] at e1; omega
      · rw [if_neg (by omega), if_neg (by omega), if_neg (by omega)] at e1
        by_cases q2 : c = 43
        · rw [if_pos q2] at e1; omega
        · rw [if_neg q2, if_pos (by omega)] at e1; omega
section MTP
variable {h : zH} {m g : Nat → Int32} {fm n kd : Nat} {fu d1 d2 : Int32}
theorem ms_cg {g' : Nat → Int32} (a : g 121 = g' 121) (b : g 122 = g' 122) : ms m kd fu d1 d2 g = ms m kd fu d1 d2 g' := by
  funext j
  unfold ms
  rw [a, b]
theorem M_takeW {i w : Nat} (hfm : fm < 6) (hn : n ≤ 6) (hw : g 18 = nI w) (w8 : w ≤ 8) (hi : i < w) (hz : ∀ i, w ≤ i → i < 8 → g (19 + i) = 0 ∧ g (27 + i) = 0 ∧ g (35 + i) = 0) : m_Model_takeOut 670 (nI 36) (nI i) (mg h m fm n kd fu d1 d2 g) = some (mg h m fm n kd fu d1 d2 (takeW g i)) := by
  obtain ⟨k, rfl⟩ : ∃ k, w = k + 1 := ⟨w - 1, by omega⟩
  unfold mg
  rw [M_to (n := k) (by omega) (by omega) ((ph_rd pm_c.1).trans hw)]
  rw [toR_ph (T := takeW g i) hfm hn (Or.inl ⟨rfl, rfl⟩) (by omega) (by omega), ms_cg (tW_hi i (by omega)).symm (tW_hi i (by omega)).symm]
  · intro j t hj ht
    rcases (show t = 0 ∨ t = 1 ∨ t = 2 by omega) with rfl | rfl | rfl
    · exact tW_19 (by omega) hj
    · exact tW_27 (by omega) hj
    · exact tW_35 (by omega) hj
  · rw [tW_18, hw, nI_subn (by omega)]
    rfl
  · intro c hc
    rcases Nat.lt_or_ge c 18 with q | q
    · exact tW_lo i q
    · exact tW_hi i (by omega)
  · intro j t hj hj8 ht
    rcases (show t = 0 ∨ t = 1 ∨ t = 2 by omega) with rfl | rfl | rfl
    · exact (hz j (by omega) hj8).1
    · exact (hz j (by omega) hj8).2.1
    · exact (hz j (by omega) hj8).2.2
theorem M_takeN {i w : Nat} (hfm : fm < 6) (hn : n ≤ 6) (hw : g 43 = nI w) (w8 : w ≤ 8) (hi : i < w) (hz : ∀ i, w ≤ i → i < 8 → g (44 + i) = 0 ∧ g (52 + i) = 0 ∧ g (60 + i) = 0) : m_Model_takeOut 670 (nI 61) (nI i) (mg h m fm n kd fu d1 d2 g) = some (mg h m fm n kd fu d1 d2 (takeN g i)) := by
  obtain ⟨k, rfl⟩ : ∃ k, w = k + 1 := ⟨w - 1, by omega⟩
  unfold mg
  rw [M_to (n := k) (by omega) (by omega) ((ph_rd pm_c.2.1).trans hw)]
  rw [toR_ph (T := takeN g i) hfm hn (Or.inr ⟨rfl, rfl⟩) (by omega) (by omega), ms_cg (tN_hi i (by omega)).symm (tN_hi i (by omega)).symm]
  · intro j t hj ht
    rcases (show t = 0 ∨ t = 1 ∨ t = 2 by omega) with rfl | rfl | rfl
    · exact tN_44 (by omega) hj
    · exact tN_52 (by omega) hj
    · exact tN_60 (by omega) hj
  · rw [tN_43, hw, nI_subn (by omega)]
    rfl
  · intro c hc
    rcases Nat.lt_or_ge c 43 with q | q
    · exact tN_lo i q
    · exact tN_hi i (by omega)
  · intro j t hj hj8 ht
    rcases (show t = 0 ∨ t = 1 ∨ t = 2 by omega) with rfl | rfl | rfl
    · exact (hz j (by omega) hj8).1
    · exact (hz j (by omega) hj8).2.1
    · exact (hz j (by omega) hj8).2.2
end MTP
