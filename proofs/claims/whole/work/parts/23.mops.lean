/-! THE MODEL'S SMALL METHODS over its state -/
def ms (m : Nat → Int32) (kd : Nat) (fu d1 d2 : Int32) (g : Nat → Int32) : Nat → Int32 := fun j => if j = 8 then g 121 + d1 else if j = 9 then g 122 + d2 else if j = 10 then nI kd else if j = 11 then fu else m j
/-- the heap with the model's object and its row -/
def mh (h : zH) (m r : Nat → Int32) : zH := zup (zup h 670 (MO m)) 675 (zI32 91 r)
def mg (h : zH) (m : Nat → Int32) (fm n kd : Nat) (fu d1 d2 : Int32) (g : Nat → Int32) : zH := mh h (ms m kd fu d1 d2 g) (ph fm n g)
theorem mh_670 {h : zH} {m r : Nat → Int32} : mh h m r 670 = MO m := by
  unfold mh
  rw [zup_ne (by omega), zup_eq]
theorem mh_675 {h : zH} {m r : Nat → Int32} : mh h m r 675 = zI32 91 r := zup_eq _ _ _
theorem mh_ne {h : zH} {m r : Nat → Int32} {k : Nat} (a : k ≠ 670) (b : k ≠ 675) : mh h m r k = h k := by
  unfold mh
  rw [zup_ne b, zup_ne a]
theorem mh_m {h : zH} {m m' r : Nat → Int32} : zup (mh h m r) 670 (MO m') = mh h m' r := by
  unfold mh
  rw [zup_comm (by omega), zup_zup]
theorem mh_r {h : zH} {m r r' : Nat → Int32} : zup (mh h m r) 675 (zI32 91 r') = mh h m r' := by
  unfold mh
  rw [zup_zup]
theorem mh_o {h : zH} {m r : Nat → Int32} {k : Nat} {e : zE} (a : k ≠ 670) (b : k ≠ 675) : zup (mh h m r) k e = mh (zup h k e) m r := by
  unfold mh
  rw [zup_comm (fun z => b z.symm), zup_comm (a := 670) (fun z => a z.symm)]
theorem mh_self {h : zH} {m r : Nat → Int32} (a : h 670 = MO m) (b : h 675 = zI32 91 r) : mh h m r = h := by
  unfold mh
  rw [zup_self a, zup_self b]
theorem mh_mh {h : zH} {m r m' r' : Nat → Int32} : mh (mh h m r) m' r' = mh h m' r' := by
  unfold mh
  rw [zup_comm (a := 675) (b := 670) (by omega), zup_zup, zup_zup]
theorem nI1_1 : nI 1 = (1 : Int32) := by decide
/-- the kinds, as the model asks for them -/
theorem mu_tab : ∀ kd, kd < 9 → ∀ k, k < 9 → ∀ (j : Nat) (h : zH), zloop (g_Model_isUnder_2 (nI k) h) (j + 5) (nI kd) = some (if k ∈ chain kd then nI 1 else nI 0) := by
  intro kd hkd k hk m h
  rcases (show kd = 0 ∨ kd = 1 ∨ kd = 2 ∨ kd = 3 ∨ kd = 4 ∨ kd = 5 ∨ kd = 6 ∨ kd = 7 ∨ kd = 8 by omega) with rfl | rfl | rfl | rfl | rfl | rfl | rfl | rfl | rfl <;>
  rcases (show k = 0 ∨ k = 1 ∨ k = 2 ∨ k = 3 ∨ k = 4 ∨ k = 5 ∨ k = 6 ∨ k = 7 ∨ k = 8 by omega) with rfl | rfl | rfl | rfl | rfl | rfl | rfl | rfl | rfl <;> rfl
theorem M_under {kd k : Nat} (hkd : kd < 9) (hk : k < 9) (h : zH) : m_Model_isUnder (nI kd) (nI k) h = some (if k ∈ chain kd then nI 1 else nI 0) := by
  obtain ⟨m, hm⟩ := zN10
  unfold m_Model_isUnder
  rw [hm]
  exact mu_tab kd hkd k hk (m + 7) h
theorem ch_fm {kd : Nat} (hkd : kd < 9) : ((2 ∈ chain kd) = (fmo kd = 2)) ∧ ((3 ∈ chain kd) = (fmo kd = 3 ∨ fmo kd = 4 ∨ fmo kd = 5)) ∧ ((4 ∈ chain kd) = (fmo kd = 4)) ∧ ((5 ∈ chain kd) = (fmo kd = 5)) ∧ ((kd = 1) = (fmo kd = 1)) := by
  rcases (show kd = 0 ∨ kd = 1 ∨ kd = 2 ∨ kd = 3 ∨ kd = 4 ∨ kd = 5 ∨ kd = 6 ∨ kd = 7 ∨ kd = 8 by omega) with rfl | rfl | rfl | rfl | rfl | rfl | rfl | rfl | rfl <;> refine ⟨propext ?_, propext ?_, propext ?_, propext ?_, propext ?_⟩ <;> decide
theorem M_u2 {kd fm : Nat} (hkd : kd < 9) (hf : fm = fmo kd) (h : zH) : m_Model_isUnder (nI kd) (nI 2) h = some (if fm = 2 then nI 1 else nI 0) := by rw [M_under hkd (by omega), hf]; simp only [(ch_fm hkd).1]
theorem M_u3 {kd fm : Nat} (hkd : kd < 9) (hf : fm = fmo kd) (h : zH) : m_Model_isUnder (nI kd) (nI 3) h = some (if fm = 3 ∨ fm = 4 ∨ fm = 5 then nI 1 else nI 0) := by rw [M_under hkd (by omega), hf]; simp only [(ch_fm hkd).2.1]
theorem M_u4 {kd fm : Nat} (hkd : kd < 9) (hf : fm = fmo kd) (h : zH) : m_Model_isUnder (nI kd) (nI 4) h = some (if fm = 4 then nI 1 else nI 0) := by rw [M_under hkd (by omega), hf]; simp only [(ch_fm hkd).2.2.1]
theorem M_u5 {kd fm : Nat} (hkd : kd < 9) (hf : fm = fmo kd) (h : zH) : m_Model_isUnder (nI kd) (nI 5) h = some (if fm = 5 then nI 1 else nI 0) := by rw [M_under hkd (by omega), hf]; simp only [(ch_fm hkd).2.2.2.1]
theorem M_k1 {kd fm : Nat} (hkd : kd < 9) (hf : fm = fmo kd) : (nI kd = nI 1) = (fm = 1) := by rw [nI_eq_iff (by omega) (by omega), hf, (ch_fm hkd).2.2.2.2]
section MOP
variable {h : zH} {m g : Nat → Int32} {fm n kd : Nat} {fu d1 d2 : Int32}
theorem M_670 : mg h m fm n kd fu d1 d2 g 670 = MO (ms m kd fu d1 d2 g) := mh_670
theorem M_675 : mg h m fm n kd fu d1 d2 g 675 = zI32 91 (ph fm n g) := mh_675
theorem M_now : zrR (mg h m fm n kd fu d1 d2 g) 670 7 7 = some 675 := (MO_ref _ _ M_670).2.2.2.2.1
theorem M_cv {α : Type} (o : Option α) : zcv (mg h m fm n kd fu d1 d2 g) 670 7 o = o := MO_cv _ _ M_670 o
theorem M_4 (h4 : m 4 = nI n) : zrI (mg h m fm n kd fu d1 d2 g) 670 7 4 = some (nI n) := by rw [MO_rd _ _ (by unfold mosc; omega) M_670]; exact congrArg some h4
theorem M_8 : zrI (mg h m fm n kd fu d1 d2 g) 670 7 8 = some (g 121 + d1) := MO_rd _ _ (by unfold mosc; omega) M_670
theorem M_9 : zrI (mg h m fm n kd fu d1 d2 g) 670 7 9 = some (g 122 + d2) := MO_rd _ _ (by unfold mosc; omega) M_670
theorem M_10 : zrI (mg h m fm n kd fu d1 d2 g) 670 7 10 = some (nI kd) := MO_rd _ _ (by unfold mosc; omega) M_670
theorem M_11 : zrI (mg h m fm n kd fu d1 d2 g) 670 7 11 = some fu := MO_rd _ _ (by unfold mosc; omega) M_670
theorem M_w8 (hfm : fm < 6) (hn : n ≤ 6) : zwI (mg h m fm n kd fu d1 d2 g) 670 7 8 (g 121 + d1 + nI 1) = some (mg h m fm n kd fu d1 d2 (upd g 121 (g 121 + nI 1))) := by
  rw [MO_wr _ _ _ (by unfold mosc; omega) M_670]
  unfold mg
  rw [mh_m, ph_cg hfm hn (g' := upd g 121 (g 121 + nI 1)) (fun c hc => (upd_ne (by omega)).symm)]
  refine congrArg (fun z => some (mh h z _)) (funext fun j => ?_)
  unfold ms upd
  dsimp only
  by_cases e : j = 8
  · rw [if_pos e, if_pos e, if_pos rfl, Int32.add_assoc, Int32.add_comm d1, ← Int32.add_assoc]
  · rw [if_neg e, if_neg e, if_neg e]
    by_cases e2 : j = 9
    · rw [if_pos e2, if_pos e2, if_neg (by omega)]
    · rw [if_neg e2, if_neg e2]
theorem M_w9 (hfm : fm < 6) (hn : n ≤ 6) : zwI (mg h m fm n kd fu d1 d2 g) 670 7 9 (g 122 + d2 + nI 1) = some (mg h m fm n kd fu d1 d2 (upd g 122 (g 122 + nI 1))) := by
  rw [MO_wr _ _ _ (by unfold mosc; omega) M_670]
  unfold mg
  rw [mh_m, ph_cg hfm hn (g' := upd g 122 (g 122 + nI 1)) (fun c hc => (upd_ne (by omega)).symm)]
  refine congrArg (fun z => some (mh h z _)) (funext fun j => ?_)
  unfold ms upd
  dsimp only
  by_cases e : j = 9
  · rw [if_pos e, if_neg (by omega), if_pos e, if_pos rfl, Int32.add_assoc, Int32.add_comm d2, ← Int32.add_assoc]
  · rw [if_neg e]
    by_cases e2 : j = 8
    · rw [if_pos e2, if_pos e2, if_neg (by omega)]
    · rw [if_neg e2, if_neg e2, if_neg e, if_neg e]
theorem M_w11 {x : Int32} (hx : x = 0 ∨ x = 1) : zwZ (mg h m fm n kd fu d1 d2 g) 670 7 11 x = some (mg h m fm n kd x d1 d2 g) := by
  rw [MO_wrZ _ _ hx M_670]
  unfold mg
  rw [mh_m]
  refine congrArg (fun z => some (mh h z _)) (funext fun j => ?_)
  unfold ms upd
  dsimp only
  by_cases e : j = 11
  · rw [if_pos e, if_neg (by omega), if_neg (by omega), if_neg (by omega), if_pos e]
  · rw [if_neg e, if_neg e, if_neg e]
theorem M_ld {j c : Nat} (hc : pm fm n j = some c) : zaI (mg h m fm n kd fu d1 d2 g) 675 (nI j) = some (g c) := by
  have j91 : j < 91 := by
    rcases Nat.lt_or_ge j 91 with h | h
    · exact h
    · rw [pm_hi h] at hc; cases hc
  rw [zaI, zA32_of M_675 j91 (by omega), ph_rd hc]
theorem M_st {j c : Nat} (hfm : fm < 6) (hn : n ≤ 6) (hc : pm fm n j = some c) (x : Int32) : zsI (mg h m fm n kd fu d1 d2 g) 675 (nI j) x = some (mg h m fm n kd fu d1 d2 (upd g c x)) := by
  have j91 : j < 91 := by
    rcases Nat.lt_or_ge j 91 with h | h
    · exact h
    · rw [pm_hi h] at hc; cases hc
  have c121 := (pm_tab fm hfm n (by omega) j j91 c hc).2
  rw [zsI, zS32_of M_675 j91 (by omega)]
  unfold mg
  rw [mh_r, ph_up hfm hn hc]
  refine congrArg (fun z => some (mh h z _)) (funext fun j => ?_)
  unfold ms
  rw [upd_ne (by omega), upd_ne (by omega)]
theorem M_of {hh k c : Nat} (hc : pm fm n (6 * hh + k) = some c) : m_Model_of 670 (nI hh) (nI k) (mg h m fm n kd fu d1 d2 g) = some (g c) := by
  simp only [m_Model_of, M_now, bind_some', pk_mul, nI_add, M_ld hc]
theorem M_be {hh k c : Nat} (hfm : fm < 6) (hn : n ≤ 6) (hc : pm fm n (6 * hh + k) = some c) (x : Int32) : m_Model_become 670 (nI hh) (nI k) x (mg h m fm n kd fu d1 d2 g) = some (mg h m fm n kd fu d1 d2 (upd g c x)) := by
  simp only [m_Model_become, M_now, bind_some', pk_mul, nI_add, M_st hfm hn hc]
theorem M_add {hh k c : Nat} (hfm : fm < 6) (hn : n ≤ 6) (hc : pm fm n (6 * hh + k) = some c) (x : Int32) : m_Model_add 670 (nI hh) (nI k) x (mg h m fm n kd fu d1 d2 g) = some (mg h m fm n kd fu d1 d2 (upd g c (g c + x))) := by
  simp only [m_Model_add, M_now, bind_some', pk_mul, nI_add, M_ld hc, M_st hfm hn hc]
theorem M_words : m_Model_words 670 (mg h m fm n kd fu d1 d2 g) = some (g 18) := by
  simp only [m_Model_words, M_now, bind_some', M_ld pm_c.1]
theorem M_notes : m_Model_notes 670 (mg h m fm n kd fu d1 d2 g) = some (g 43) := by
  simp only [m_Model_notes, M_now, bind_some', M_ld pm_c.2.1]
theorem M_putW {k : Nat} (hfm : fm < 6) (hn : n ≤ 6) (hk : g 18 = nI k) (k8 : k ≤ 8) (x y z : Int32) : m_Model_putLast 670 (nI 36) x y z (mg h m fm n kd fu d1 d2 g) = some (if k < 8 then mg h m fm n kd fu d1 d2 (pushW g k x y z) else mg h m fm n kd (nI 1) d1 d2 g) := by
  by_cases c : k < 8
  · have c8 : (k = 8) = False := eq_false (by omega)
    rw [if_pos c]
    have i1 : ∀ g : Nat → Int32, zsI (mg h m fm n kd fu d1 d2 g) 675 (nI (36 + 1 + 3 * k)) x = some (mg h m fm n kd fu d1 d2 (upd g (19 + k) x)) := fun g => M_st hfm hn (pmW (t := 0) c (by omega)) x
    have i2 : ∀ g : Nat → Int32, zsI (mg h m fm n kd fu d1 d2 g) 675 (nI (36 + 2 + 3 * k)) y = some (mg h m fm n kd fu d1 d2 (upd g (27 + k) y)) := fun g => by
      have := M_st (h := h) (m := m) (g := g) (kd := kd) (fu := fu) (d1 := d1) (d2 := d2) hfm hn (pmW (fm := fm) (n := n) (t := 1) c (by omega)) y
      rw [show 36 + 2 + 3 * k = 37 + 3 * k + 1 by omega, this, show 19 + 8 * 1 + k = 27 + k by omega]
    have i3 : ∀ g : Nat → Int32, zsI (mg h m fm n kd fu d1 d2 g) 675 (nI (36 + 3 + 3 * k)) z = some (mg h m fm n kd fu d1 d2 (upd g (35 + k) z)) := fun g => by
      have := M_st (h := h) (m := m) (g := g) (kd := kd) (fu := fu) (d1 := d1) (d2 := d2) hfm hn (pmW (fm := fm) (n := n) (t := 2) c (by omega)) z
      rw [show 36 + 3 + 3 * k = 37 + 3 * k + 2 by omega, this, show 19 + 8 * 2 + k = 35 + k by omega]
    have e18 : upd (upd (upd g (19 + k) x) (27 + k) y) (35 + k) z 18 = nI k := by rw [upd_ne (by omega), upd_ne (by omega), upd_ne (by omega)]; exact hk
    simp (disch := omega) only [m_Model_putLast, M_now, bind_some', M_ld pm_c.1, hk, nI_eq_iff, c8, if_false, pk_mul, nI_add, i1, i2, i3, e18, M_st hfm hn pm_c.1]
    rfl
  · have c8 : (k = 8) = True := eq_true (by omega)
    rw [if_neg c]
    simp (disch := omega) only [m_Model_putLast, M_now, bind_some', M_ld pm_c.1, hk, nI_eq_iff, c8, if_true, M_w11 (Or.inr nI1_1)]
def pushN0 (g : Nat → Int32) (k : Nat) (to x y : Int32) : Nat → Int32 := upd (upd (upd (upd g (44 + k) to) (52 + k) x) (60 + k) y) 43 (nI (k + 1))
theorem M_putN {k : Nat} (hfm : fm < 6) (hn : n ≤ 6) (hk : g 43 = nI k) (k8 : k ≤ 8) (x y z : Int32) : m_Model_putLast 670 (nI 61) x y z (mg h m fm n kd fu d1 d2 g) = some (if k < 8 then mg h m fm n kd fu d1 d2 (pushN0 g k x y z) else mg h m fm n kd (nI 1) d1 d2 g) := by
  by_cases c : k < 8
  · have c8 : (k = 8) = False := eq_false (by omega)
    rw [if_pos c]
    have i1 : ∀ g : Nat → Int32, zsI (mg h m fm n kd fu d1 d2 g) 675 (nI (61 + 1 + 3 * k)) x = some (mg h m fm n kd fu d1 d2 (upd g (44 + k) x)) := fun g => M_st hfm hn (pmN (t := 0) c (by omega)) x
    have i2 : ∀ g : Nat → Int32, zsI (mg h m fm n kd fu d1 d2 g) 675 (nI (61 + 2 + 3 * k)) y = some (mg h m fm n kd fu d1 d2 (upd g (52 + k) y)) := fun g => by
      have := M_st (h := h) (m := m) (g := g) (kd := kd) (fu := fu) (d1 := d1) (d2 := d2) hfm hn (pmN (fm := fm) (n := n) (t := 1) c (by omega)) y
      rw [show 61 + 2 + 3 * k = 62 + 3 * k + 1 by omega, this, show 44 + 8 * 1 + k = 52 + k by omega]
    have i3 : ∀ g : Nat → Int32, zsI (mg h m fm n kd fu d1 d2 g) 675 (nI (61 + 3 + 3 * k)) z = some (mg h m fm n kd fu d1 d2 (upd g (60 + k) z)) := fun g => by
      have := M_st (h := h) (m := m) (g := g) (kd := kd) (fu := fu) (d1 := d1) (d2 := d2) hfm hn (pmN (fm := fm) (n := n) (t := 2) c (by omega)) z
      rw [show 61 + 3 + 3 * k = 62 + 3 * k + 2 by omega, this, show 44 + 8 * 2 + k = 60 + k by omega]
    have e18 : upd (upd (upd g (44 + k) x) (52 + k) y) (60 + k) z 43 = nI k := by rw [upd_ne (by omega), upd_ne (by omega), upd_ne (by omega)]; exact hk
    simp (disch := omega) only [m_Model_putLast, M_now, bind_some', M_ld pm_c.2.1, hk, nI_eq_iff, c8, if_false, pk_mul, nI_add, i1, i2, i3, e18, M_st hfm hn pm_c.2.1]
    rfl
  · have c8 : (k = 8) = True := eq_true (by omega)
    rw [if_neg c]
    simp (disch := omega) only [m_Model_putLast, M_now, bind_some', M_ld pm_c.2.1, hk, nI_eq_iff, c8, if_true, M_w11 (Or.inr nI1_1)]
theorem M_note {k : Nat} (hfm : fm < 6) (hn : n ≤ 6) (hk : g 43 = nI k) (k8 : k ≤ 8) (x y z : Int32) : m_Model_sendNote 670 x y z (mg h m fm n kd fu d1 d2 g) = some (if k < 8 then mg h m fm n kd fu d1 d2 (pushN g k x y z) else mg h m fm n kd (nI 1) d1 d2 (upd g 122 (g 122 + nI 1))) := by
  by_cases c : k < 8
  · have e : pushN0 g k x y z 122 = g 122 := by unfold pushN0; rw [upd_ne (by omega), upd_ne (by omega), upd_ne (by omega), upd_ne (by omega)]
    have w := M_w9 (h := h) (m := m) (g := pushN0 g k x y z) (kd := kd) (fu := fu) (d1 := d1) (d2 := d2) hfm hn
    rw [e] at w
    simp only [m_Model_sendNote, M_cv, M_putN hfm hn hk k8, eq_true c, if_true, bind_some', M_9, e, w]
    rfl
  · simp only [m_Model_sendNote, M_cv, M_putN hfm hn hk k8, eq_false c, if_false, bind_some', M_9, M_w9 hfm hn]
end MOP
