/-! COMING, NOTES, ASKING, LEAVING, A STEP -/
def aJoin (g : Nat → Int32) (fr : Int32) (to : Nat) : cA := if g (87 + to) = nI 1 then aNote g fr (nI 0) (nI 0) else (nI 1, upd (upd g (87 + to) (nI 1)) (81 + to) fr)
def wake (g : Nat → Int32) (to : Nat) : Nat → Int32 := if g to = 0 then upd (upd (upd g to (nI 1)) (6 + to) (g (6 + to) + nI 1)) (12 + to) (nI 0) else g
def aCome2 (fm kd : Nat) (g : Nat → Int32) (fr : Int32) (to : Nat) (u : Int32) : cA :=
  if fm = 1 then (nI 1, upd g (68 + to) (g (68 + to) + u))
  else if fm = 2 then aJoin g fr to
  else if fm = 4 then (nI 1, upd (upd g (93 + to) (g (93 + to) - nI 1)) (99 + to) (if kd = 7 then nI 0 else nI 1))
  else if fm = 5 then (nI 1, upd g (111 + to) (g (111 + to) + nI 1))
  else (nI 1, g)
def aCome (fm kd : Nat) (g : Nat → Int32) (i : Nat) : cA := aCome2 fm kd (wake (takeW g i) (cnt g (27 + i))) (g (19 + i)) (cnt g (27 + i)) (g (35 + i))
def aStone (g : Nat → Int32) (hh : Nat) (sum black : Int32) : cA :=
  if hh = 0 then (nI 1, if black = 0 ∧ g 99 = 0 ∧ sum + g 93 = 0 then upd g 120 (nI 1) else g)
  else aNote (upd g (99 + hh) (nI 0)) (nI (hh - 1)) (sum + g (93 + hh)) (if black = nI 1 ∨ g (99 + hh) = nI 1 then nI 1 else nI 0)
def aSums (kd n : Nat) (g : Nat → Int32) (hh : Nat) (s c : Int32) : cA :=
  if hh = 0 then (nI 1, if s = c ∧ (kd = 8 ∨ (g 117 = nI 1 ∧ g 118 = s ∧ g 119 = c)) then upd g 120 (nI 1) else upd (upd (upd g 117 (nI 1)) 118 s) 119 c)
  else aNote g (nI (if n ≤ hh + 1 then 0 else hh + 1)) (s + g (105 + hh)) (c + g (111 + hh))
def aCN2 (fm kd n : Nat) (g : Nat → Int32) (to : Nat) (x y : Int32) : cA :=
  if fm = 1 then (nI 1, upd g (68 + to) (g (68 + to) + x))
  else if fm = 2 then (nI 1, upd g (75 + to) (g (75 + to) - nI 1))
  else if fm = 4 then aStone g to x y
  else if fm = 5 then aSums kd n g to x y
  else (nI 1, g)
def aCN (fm kd n : Nat) (g : Nat → Int32) (i : Nat) : cA := if fm = 4 ∧ g (cnt g (44 + i)) = nI 1 then (-5, g) else aCN2 fm kd n (takeN g i) (cnt g (44 + i)) (g (52 + i)) (g (60 + i))
def aAsk (fm n : Nat) (g : Nat → Int32) : cA :=
  if (fm = 3 ∨ fm = 4 ∨ fm = 5) ∧ ¬ 0 < g 43 ∧ ¬ g 0 = nI 1 then
    (if fm = 4 then aNote (upd g 99 (nI 0)) (nI (n - 1)) (nI 0) (nI 0)
     else if fm = 5 then aNote g (nI (if n ≤ 1 then 0 else 1)) (g 105) (g 111)
     else (nI 1, g))
  else (-5, g)
def lvS (kd : Nat) (g : Nat → Int32) (hh : Nat) : cA := if (kd = 6 ∨ g (75 + hh) = 0) ∧ g (87 + hh) = nI 1 ∧ g hh = 0 then ((aNote g (g (81 + hh)) (nI 0) (nI 0)).1, upd (upd (aNote g (g (81 + hh)) (nI 0) (nI 0)).2 (87 + hh) (nI 0)) (81 + hh) (-1)) else (nI 1, g)
def lvL (kd : Nat) : Nat → Nat → (Nat → Int32) → cA
  | 0, _, g => (nI 1, g)
  | d + 1, hh, g => if (lvS kd g hh).1 = nI 1 then lvL kd d (hh + 1) (lvS kd g hh).2 else lvS kd g hh
def aLeave (kd n : Nat) (g : Nat → Int32) : cA := lvL kd (n - 1) 1 g
abbrev sees (fm : Nat) (g : Nat → Int32) : Prop := ¬ g 0 = nI 1 ∧ ((fm = 1 ∧ g 68 = g 74) ∨ (fm = 2 ∧ ¬ 0 < g 75))
def aSee (fm : Nat) (q : cA) : cA := if q.1 = nI 1 ∧ sees fm q.2 then (q.1, upd q.2 120 (nI 1)) else q
def aFin (fm kd n : Nat) (q : cA) : cA := if q.1 = nI 1 then aSee fm (if fm = 2 then aLeave kd n q.2 else q) else q
/-- a step: by its sort and number, on the cells -/
def aStep (kd fm n : Nat) (nw : Nat → Int32 → Nat) (go : Nat → Int32 → Nat → Nat) (sort : Nat) (i : Int32) (g : Nat → Int32) : cA :=
  aFin fm kd n (match sort with
    | 0 => (match ix i n with
      | some hh => aGoOn fm n nw go g hh
      | none => (-5, g))
    | 1 => (match ix i (cnt g 18) with
      | some k => aCome fm kd g k
      | none => (-5, g))
    | 2 => (match ix i (cnt g 43) with
      | some k => aCN fm kd n g k
      | none => (-5, g))
    | 3 => if i = 0 then aAsk fm n g else (-5, g)
    | 4 => (match ix i (cnt g 18) with
      | some k => (nI 1, takeW g k)
      | none => (-5, g))
    | _ => (-5, g))
/-- what a row of cells must keep for its numbers to be places -/
def okG (n : Nat) (g : Nat → Int32) : Prop := ∃ w k, w ≤ 8 ∧ k ≤ 8 ∧ g 18 = nI w ∧ g 43 = nI k ∧ (∀ i, i < w → ∃ f t, f < n ∧ t < n ∧ g (19 + i) = nI f ∧ g (27 + i) = nI t) ∧ (∀ i, i < k → ∃ t, t < n ∧ g (44 + i) = nI t) ∧ ∀ hh, hh < n → ∃ m, m ≤ 270 ∧ g (12 + hh) = nI m
theorem okG.c {n : Nat} {g : Nat → Int32} (h : okG n g) : okC g := by
  obtain ⟨w, k, w8, k8, hw, hk, -⟩ := h
  exact ⟨⟨w, w8, hw⟩, k, k8, hk⟩
theorem n10 : ((1 : Nat) = 0) = False := by simp
theorem nI1_0 : (nI 1 = 0) = False := by rw [nI_eq0 (by omega)]; simp
theorem nI0_0 : (nI 0 = 0) = True := by rw [nI_eq0 (by omega)]; simp
section RW
variable {h : zH} {a r : Nat} {g : Nat → Int32} {kd fm n : Nat} {nw : Nat → Int32 → Nat} {go : Nat → Int32 → Nat → Nat}
theorem s_goOn (hr : h r = ruE kd fm) (hfm : fm < 6) (q : r ≠ a) (ha : 18 ≤ a) (H : HU n nw go h) {hh : Nat} (q2 : hh < n) (ok : okG n g) : m_Rules_goOn r a (nI hh) (zup h a (zI32 123 g)) = some ((aGoOn fm n nw go g hh).1, zup h a (zI32 123 (aGoOn fm n nw go g hh).2)) := by
  have hn := hu_n H
  have okc := ok.c
  obtain ⟨-, k, k8, hk⟩ := id okc
  obtain ⟨m, m270, hm⟩ : ∃ m, m ≤ 270 ∧ g (12 + hh) = nI m := by
    obtain ⟨_, _, _, _, _, _, _, _, q3⟩ := ok
    exact q3 hh q2
  have hw := hu_nw H q2 (g (6 + hh) - nI 1)
  unfold aGoOn
  by_cases c : g hh = 0
  · simp (disch := omega) only [m_Rules_goOn, rl_huts hr q, hu_zcv H ha, hu_has H ha, q2, if_true, bind_some', nI1_0, if_false, zaI, zA32_ld, nI_add, Nat.zero_add, c]
  · by_cases c2 : nw hh (g (6 + hh) - nI 1) ≤ m
    · have c2' : (nw hh (g (6 + hh) - nI 1) ≤ m) = True := eq_true c2
      have c' : (g hh = 0) = False := eq_false c
      by_cases f1 : fm = 1
      · subst f1
        by_cases h0 : hh = 0
        · have h0' : (hh = 0) = True := eq_true h0
          simp (disch := omega) only [m_Rules_goOn, rl_huts hr q, hu_zcv H ha, hu_has H ha, q2, if_true, bind_some', nI1_0, if_false, zaI, zA32_ld, zsI, zS32_st, nI_add, Nat.zero_add, c', hu_words H ha _ q2, hm, nI_le_iff, c2', rl_fam hr q, nI_eq0, n10, h0']
        · have h0' : (hh = 0) = False := eq_false h0
          by_cases c3 : g (68 + hh) = 0
          · simp (disch := omega) only [m_Rules_goOn, rl_huts hr q, hu_zcv H ha, hu_has H ha, q2, if_true, bind_some', nI1_0, if_false, zaI, zA32_ld, zsI, zS32_st, nI_add, Nat.zero_add, c', hu_words H ha _ q2, hm, nI_le_iff, c2', rl_fam hr q, nI_eq0, n10, h0', upd_ne, c3]
          · have c3' : (g (68 + hh) = 0) = False := eq_false c3
            simp (disch := omega) only [m_Rules_goOn, rl_huts hr q, hu_zcv H ha, hu_has H ha, q2, if_true, bind_some', nI1_0, if_false, zaI, zA32_ld, zsI, zS32_st, nI_add, Nat.zero_add, c', hu_words H ha _ q2, hm, nI_le_iff, c2', rl_fam hr q, nI_eq0, n10, h0', upd_ne, c3']
            rw [s_note (k := k) (by rw [upd_ne (by omega), upd_ne (by omega)]; exact hk) k8]
            rfl
      · have f1' : (fm = 1) = False := eq_false f1
        simp (disch := omega) only [m_Rules_goOn, rl_huts hr q, hu_zcv H ha, hu_has H ha, q2, if_true, bind_some', nI1_0, if_false, zaI, zA32_ld, zsI, zS32_st, nI_add, Nat.zero_add, c', hu_words H ha _ q2, hm, nI_le_iff, c2', rl_fam hr q, nI_eq_iff, f1', upd_ne]
    · have c2' : (nw hh (g (6 + hh) - nI 1) ≤ m) = False := eq_false c2
      have c' : (g hh = 0) = False := eq_false c
      have hgo := hu_go H q2 (l := g (6 + hh) - nI 1) (i := m) (by omega)
      have ec : cnt g (12 + hh) = m := cnt_nI hm (by omega)
      simp (disch := omega) only [m_Rules_goOn, rl_huts hr q, hu_zcv H ha, hu_has H ha, q2, if_true, bind_some', nI1_0, if_false, zaI, zA32_ld, nI_add, Nat.zero_add, c', hu_words H ha _ q2, hm, nI_le_iff, c2', hu_goal H ha _ q2, rl_zcv hr q, ec]
      rw [s_send hr hfm q ha H (by omega) hgo okc]
      rfl
theorem s_join {to k : Nat} (hto : to < 6) (hk : g 43 = nI k) (k8 : k ≤ 8) (fr : Int32) : m_Rules_joinTree a fr (nI to) (zup h a (zI32 123 g)) = some ((aJoin g fr to).1, zup h a (zI32 123 (aJoin g fr to).2)) := by
  unfold aJoin
  by_cases c : g (87 + to) = nI 1
  · simp (disch := omega) only [m_Rules_joinTree, zaI, zA32_ld, nI_add, bind_some', c, if_true]
    rw [s_note hk k8]
    rfl
  · have c' : (g (87 + to) = nI 1) = False := eq_false c
    simp (disch := omega) only [m_Rules_joinTree, zaI, zA32_ld, zsI, zS32_st, nI_add, bind_some', c', if_false]
theorem s_come2 (hr : h r = ruE kd fm) (hkd : kd < 9) (hfm : fm < 6) (q : r ≠ a) {to k : Nat} (hto : to < 6) (hk : g 43 = nI k) (k8 : k ≤ 8) (fr u : Int32) : g_Rules_comeWord_91 r a fr (nI to) u (zup h a (zI32 123 g)) = some ((aCome2 fm kd g fr to u).1, zup h a (zI32 123 (aCome2 fm kd g fr to u).2)) := by
  have b0 : ∀ e, zrI (zup h a e) r 3 2 = some (nI fm) := rl_fam hr q
  have b1 : ∀ e, zrI (zup h a e) r 3 1 = some (nI kd) := rl_kind hr q
  unfold aCome2
  rcases (show fm = 0 ∨ fm = 1 ∨ fm = 2 ∨ fm = 3 ∨ fm = 4 ∨ fm = 5 by omega) with rfl | rfl | rfl | rfl | rfl | rfl
  all_goals simp (disch := omega) only [g_Rules_comeWord_91, b0, b1, bind_some', nI_eq_iff]
  · simp
  · simp (disch := omega) [zaI, zA32_ld, zsI, zS32_st, nI_add]
  · simp [s_join hto hk k8, zb2_some]
  · simp
  · by_cases c : kd = 7 <;> simp (disch := omega) [zaI, zA32_ld, zsI, zS32_st, nI_add, b1, nI_eq_iff, c]
  · simp (disch := omega) [zaI, zA32_ld, zsI, zS32_st, nI_add]
theorem tW_lo (i : Nat) {k : Nat} (hk : k < 18) : takeW g i k = g k := by
  unfold takeW cg upd
  repeat' split
  all_goals first | omega | rfl
theorem tW_hi (i : Nat) {k : Nat} (hk : 43 ≤ k) : takeW g i k = g k := by
  unfold takeW cg upd
  repeat' split
  all_goals first | omega | rfl
theorem s_way {c w : Nat} (hc : c < 123) (hw : g c = nI w) (w8 : w ≤ 8) {i : Nat} (hi : i < w) : m_Rules_isOnTheWay a (nI c) (nI i) (zup h a (zI32 123 g)) = some (nI 1) := by
  have h1 : (w ≤ i) = False := eq_false (by omega)
  have h2 : (8 ≤ i) = False := eq_false (by omega)
  simp (disch := omega) only [m_Rules_isOnTheWay, nI_lt0, if_false, zaI, zA32_ld, hw, bind_some', nI_le_iff, h1, h2]
theorem s_way_no {c w : Nat} (hc : c < 123) (hw : g c = nI w) (w8 : w ≤ 8) {x : Int32} (hx : ix x w = none) : m_Rules_isOnTheWay a (nI c) x (zup h a (zI32 123 g)) = some (nI 0) := by
  rcases ix_cases x w (by omega) with ⟨-, c | c⟩ | ⟨k, hk, rfl, e⟩
  · simp only [m_Rules_isOnTheWay, c, if_true]
  · by_cases c0 : x < 0
    · simp only [m_Rules_isOnTheWay, c0, if_true]
    · have c' : (nI w ≤ x) = True := eq_true c
      simp (disch := omega) only [m_Rules_isOnTheWay, c0, if_false, zaI, zA32_ld, hw, bind_some', c', if_true]
  · rw [hx] at e; cases e
theorem s_come (hr : h r = ruE kd fm) (hkd : kd < 9) (hfm : fm < 6) (q : r ≠ a) (ha : 18 ≤ a) (H : HU n nw go h) (hn : n ≤ 6) (ok : okG n g) {i w : Nat} (hw : g 18 = nI w) (w8 : w ≤ 8) (hi : i < w) : m_Rules_comeWord r a (nI i) (zup h a (zI32 123 g)) = some ((aCome fm kd g i).1, zup h a (zI32 123 (aCome fm kd g i).2)) := by
  obtain ⟨w', k, w8', k8, hw', hk, hwd, -, -⟩ := ok
  have ew : w' = w := (nI_eq (by omega) (by omega)).mp (hw'.symm.trans hw)
  subst ew
  obtain ⟨f, t, hf, ht, ef, et⟩ := hwd i hi
  have ec : cnt g (27 + i) = t := cnt_nI et (by omega)
  have y := s_way (h := h) (a := a) (c := 18) (by omega) hw w8 hi
  unfold aCome
  rw [ec, ef]
  have k43 : (wake (takeW g i) t) 43 = nI k := by
    unfold wake
    split
    · rw [upd_ne (by omega), upd_ne (by omega), upd_ne (by omega), tW_hi _ (by omega)]; exact hk
    · rw [tW_hi _ (by omega)]; exact hk
  rw [← s_come2 hr hkd hfm q (h := h) (a := a) (r := r) (to := t) (by omega) k43 k8 (nI f) (g (35 + i))]
  by_cases c : takeW g i t = 0
  · simp (disch := omega) only [m_Rules_comeWord, y, nI1_0, if_false, zaI, zA32_ld, bind_some', nI_add, ef, et, rl_huts hr q, hu_zcv H ha, hu_has H ha, ht, if_true, s_takeW, Nat.zero_add, c, zsI, zS32_st, upd_ne]
    unfold wake
    rw [if_pos c]
  · have c' : (takeW g i t = 0) = False := eq_false c
    simp (disch := omega) only [m_Rules_comeWord, y, nI1_0, if_false, zaI, zA32_ld, bind_some', nI_add, ef, et, rl_huts hr q, hu_zcv H ha, hu_has H ha, ht, if_true, s_takeW, Nat.zero_add, c']
    unfold wake
    rw [if_neg c]
theorem s_come_no {w : Nat} (hw : g 18 = nI w) (w8 : w ≤ 8) {x : Int32} (hx : ix x w = none) : m_Rules_comeWord r a x (zup h a (zI32 123 g)) = some (-5, zup h a (zI32 123 g)) := by
  have y := s_way_no (h := h) (a := a) (c := 18) (by omega) hw w8 hx
  simp only [m_Rules_comeWord, y, bind_some', nI0_0, if_true]
theorem s_stone {hh k : Nat} (hh6 : hh < 6) (hk : g 43 = nI k) (k8 : k ≤ 8) (sum black : Int32) : m_Rules_takeStone a (nI hh) sum black (zup h a (zI32 123 g)) = some ((aStone g hh sum black).1, zup h a (zI32 123 (aStone g hh sum black).2)) := by
  unfold aStone
  by_cases h0 : hh = 0
  · have h0' : (hh = 0) = True := eq_true h0
    by_cases c1 : black = 0
    · by_cases c2 : g 99 = 0
      · by_cases c3 : sum + g 93 = 0
        · simp (disch := omega) [m_Rules_takeStone, nI_eq0, h0', zaI, zA32_ld, zsI, zS32_st, c1, c2, c3]
        · simp (disch := omega) [m_Rules_takeStone, nI_eq0, h0', zaI, zA32_ld, zsI, zS32_st, c1, c2, c3]
      · simp (disch := omega) [m_Rules_takeStone, nI_eq0, h0', zaI, zA32_ld, zsI, zS32_st, c1, c2]
    · simp (disch := omega) [m_Rules_takeStone, nI_eq0, h0', zaI, zA32_ld, zsI, zS32_st, c1]
  · have h0' : (hh = 0) = False := eq_false h0
    have key : ∀ y, g_Rules_takeStone_51 a (nI hh) sum y (zup h a (zI32 123 g)) = some ((aNote (upd g (99 + hh) (nI 0)) (nI (hh - 1)) (sum + g (93 + hh)) y).1, zup h a (zI32 123 (aNote (upd g (99 + hh) (nI 0)) (nI (hh - 1)) (sum + g (93 + hh)) y).2)) := by
      intro y
      simp (disch := omega) only [g_Rules_takeStone_51, zsI, zS32_st, zaI, zA32_ld, nI_add, bind_some', upd_ne, nI_subn]
      rw [s_note (k := k) (by rw [upd_ne (by omega)]; exact hk) k8]
      rfl
    by_cases c1 : black = nI 1
    · have c1' : (black = nI 1) = True := eq_true c1
      simp (disch := omega) only [m_Rules_takeStone, nI_eq0, h0', if_false, c1', if_true, key, true_or]
    · have c1' : (black = nI 1) = False := eq_false c1
      by_cases c2 : g (99 + hh) = nI 1
      · have c2' : (g (99 + hh) = nI 1) = True := eq_true c2
        simp (disch := omega) only [m_Rules_takeStone, nI_eq0, h0', if_false, c1', zaI, zA32_ld, nI_add, bind_some', c2', if_true, key, or_true]
      · have c2' : (g (99 + hh) = nI 1) = False := eq_false c2
        simp (disch := omega) only [m_Rules_takeStone, nI_eq0, h0', if_false, c1', zaI, zA32_ld, nI_add, bind_some', c2', key, or_false]
end RW
