/-! SENDING, GOING ON -/
abbrev ruE (kd fm : Nat) : zE := .inl (3, [.ref 2, .int (nI kd), .int (nI fm)])
def sG0 (g : Nat → Int32) (hh : Nat) : Nat → Int32 := upd (upd g (12 + hh) (g (12 + hh) + nI 1)) 121 (g 121 + nI 1)
def sG (fm : Nat) (g : Nat → Int32) (hh : Nat) : Nat → Int32 := if fm = 1 then puR (sG0 g hh) hh else if fm = 2 then upd (sG0 g hh) (75 + hh) (g (75 + hh) + nI 1) else if fm = 4 then upd (sG0 g hh) (93 + hh) (g (93 + hh) + nI 1) else if fm = 5 then upd (sG0 g hh) (105 + hh) (g (105 + hh) + nI 1) else sG0 g hh
def sU (fm : Nat) (g : Nat → Int32) (hh : Nat) : Int32 := if fm = 1 then puH (sG0 g hh) hh else nI 0
def aSend (fm n : Nat) (g : Nat → Int32) (hh go : Nat) : cA := if go < n then (if cnt g 18 < 8 then (nI 1, pushW (sG fm g hh) (cnt g 18) (nI hh) (nI go) (sU fm g hh)) else (-3, sG fm g hh)) else (nI 1, sG fm g hh)
def aGoOn (fm n : Nat) (nw : Nat → Int32 → Nat) (go : Nat → Int32 → Nat → Nat) (g : Nat → Int32) (hh : Nat) : cA :=
  if g hh = 0 then (-5, g)
  else if nI (nw hh (g (6 + hh) - nI 1)) ≤ g (12 + hh) then
    (if fm = 1 then (if hh = 0 then (nI 1, upd g hh (nI 0)) else if g (68 + hh) = 0 then (nI 1, upd g hh (nI 0)) else aNote (upd (upd g hh (nI 0)) (68 + hh) (nI 0)) (nI 0) (g (68 + hh)) (nI 0))
    else (nI 1, upd g hh (nI 0)))
  else aSend fm n g hh (go hh (g (6 + hh) - nI 1) (cnt g (12 + hh)))
section RV
variable {h : zH} {a r : Nat} {g : Nat → Int32} {kd fm n : Nat} {nw : Nat → Int32 → Nat} {go : Nat → Int32 → Nat → Nat}
theorem rl_fam (hr : h r = ruE kd fm) (q : r ≠ a) (e : zE) : zrI (zup h a e) r 3 2 = some (nI fm) := by rw [zrI_ne q]; exact zrI_of hr rfl
theorem rl_kind (hr : h r = ruE kd fm) (q : r ≠ a) (e : zE) : zrI (zup h a e) r 3 1 = some (nI kd) := by rw [zrI_ne q]; exact zrI_of hr rfl
theorem rl_huts (hr : h r = ruE kd fm) (q : r ≠ a) (e : zE) : zrR (zup h a e) r 3 0 = some 2 := by rw [zrR_ne q]; exact zrR_of hr rfl
theorem rl_cls (hr : h r = ruE kd fm) (q : r ≠ a) (e : zE) : zcls (zup h a e) r = 3 := by rw [zcls_ne q]; exact zcls_of hr
theorem hu_cls (H : HU n nw go h) (ha : 18 ≤ a) (e : zE) : zcls (zup h a e) 2 = 1 := (H.up ha _ (fun _ _ _ => rfl)).2.1
theorem hu_zcv (H : HU n nw go h) (ha : 18 ≤ a) (e : zE) {α : Type} (o : Option α) : zcv (zup h a e) 2 1 o = o := zcv_of (hu_cls H ha e)
theorem rl_zcv (hr : h r = ruE kd fm) (q : r ≠ a) (e : zE) {α : Type} (o : Option α) : zcv (zup h a e) r 3 o = o := zcv_of (rl_cls hr q e)
theorem hu_has (H : HU n nw go h) (ha : 18 ≤ a) (e : zE) {x : Nat} (hx : x < 100000) : m_Huts_has 2 (nI x) (zup h a e) = some (if x < n then nI 1 else nI 0) := by
  rw [(H.up ha _ (fun _ _ _ => rfl)).2.2.1 (nI x)]
  by_cases c : x < n
  · rw [if_pos c, ix_nI c (by have := (H h (fun _ _ _ => rfl)).1; omega), if_neg (by simp)]
  · rw [if_neg c]
    rcases ix_cases (nI x) n (by have := (H h (fun _ _ _ => rfl)).1; omega) with ⟨q, -⟩ | ⟨k, hk, e, -⟩
    · rw [if_pos q]
    · have := (nI_eq (by omega) (by omega)).mp e
      omega
theorem hu_size (H : HU n nw go h) (ha : 18 ≤ a) (e : zE) : m_Huts_size 2 (zup h a e) = some (nI n) := (H.up ha _ (fun _ _ _ => rfl)).2.2.2.1
theorem hu_n (H : HU n nw go h) : n ≤ 6 := (H h (fun _ _ _ => rfl)).1
theorem hu_words (H : HU n nw go h) (ha : 18 ≤ a) (e : zE) {hh : Nat} (q : hh < n) (l : Int32) : m_Huts_wordsOf 2 (nI hh) l (zup h a e) = some (nI (nw hh l)) := ((H.up ha _ (fun _ _ _ => rfl)).2.2.2.2.1 hh q l).2
theorem hu_nw (H : HU n nw go h) {hh : Nat} (q : hh < n) (l : Int32) : nw hh l ≤ 270 := ((H h (fun _ _ _ => rfl)).2.2.2.2.1 hh q l).1
theorem hu_goal (H : HU n nw go h) (ha : 18 ≤ a) (e : zE) {hh : Nat} (q : hh < n) {l : Int32} {i : Nat} (qi : i < nw hh l) : m_Huts_goal 2 (nI hh) l (nI i) (zup h a e) = some (nI (go hh l i)) := ((H.up ha _ (fun _ _ _ => rfl)).2.2.2.2.2 hh q l i qi).2
theorem hu_go (H : HU n nw go h) {hh : Nat} (q : hh < n) {l : Int32} {i : Nat} (qi : i < nw hh l) : go hh l i < 6 := ((H h (fun _ _ _ => rfl)).2.2.2.2.2 hh q l i qi).1
theorem sG0_18 (hh : Nat) (q : hh < 6) : sG0 g hh 18 = g 18 := by unfold sG0; rw [upd_ne (by omega), upd_ne (by omega)]
theorem puG_18 (hh : Nat) (q : hh < 6) : puG g hh 18 = g 18 := by
  unfold puG
  split
  · rfl
  · rw [upd_ne (by omega), upd_ne (by omega)]
theorem sG_18 (hh : Nat) (q : hh < 6) : sG fm g hh 18 = g 18 := by
  unfold sG
  split
  · unfold puR; rw [upd_ne (by omega), puG_18 _ q, sG0_18 _ q]
  · split
    · rw [upd_ne (by omega), sG0_18 _ q]
    · split
      · rw [upd_ne (by omega), sG0_18 _ q]
      · split
        · rw [upd_ne (by omega), sG0_18 _ q]
        · exact sG0_18 _ q
theorem s_send109 (hr : h r = ruE kd fm) (q : r ≠ a) (ha : 18 ≤ a) (H : HU n nw go h) {hh gl w : Nat} (hgl : gl < 6) (hw : g 18 = nI w) (w8 : w ≤ 8) (u : Int32) : g_Rules_send_109 r a (nI hh) (nI gl) u (zup h a (zI32 123 g)) = some (if gl < n then (if w < 8 then (nI 1, zup h a (zI32 123 (pushW g w (nI hh) (nI gl) u))) else (-3, zup h a (zI32 123 g))) else (nI 1, zup h a (zI32 123 g))) := by
  have hn := hu_n H
  by_cases c : gl < n
  · have e1 : (nI 1 = 0) = False := by simp (disch := omega) only [nI_eq0]; simp
    by_cases c2 : w < 8
    · have c2' : (w < 8) = True := eq_true c2
      simp (disch := omega) only [g_Rules_send_109, rl_huts hr q, hu_zcv H ha, hu_has H ha, c, if_true, bind_some', e1, if_false, zaI, zsI, zA32_ld, zS32_st, hw, nI_lt0, nI_lt_iff, c2', nI_add]
      rfl
    · have c2' : (w < 8) = False := eq_false c2
      simp (disch := omega) only [g_Rules_send_109, rl_huts hr q, hu_zcv H ha, hu_has H ha, c, if_true, bind_some', e1, if_false, zaI, zsI, zA32_ld, zS32_st, hw, nI_lt0, nI_lt_iff, c2', nI_add]
  · have c' : (gl < n) = False := eq_false c
    simp (disch := omega) only [g_Rules_send_109, rl_huts hr q, hu_zcv H ha, hu_has H ha, c', if_true, bind_some', if_false, nI_0]
theorem s_send (hr : h r = ruE kd fm) (hfm : fm < 6) (q : r ≠ a) (ha : 18 ≤ a) (H : HU n nw go h) {hh gl : Nat} (hh6 : hh < 6) (hgl : gl < 6) (ok : okC g) : m_Rules_send r a (nI hh) (nI gl) (zup h a (zI32 123 g)) = some ((aSend fm n g hh gl).1, zup h a (zI32 123 (aSend fm n g hh gl).2)) := by
  obtain ⟨⟨w, w8, hw⟩, -⟩ := ok
  have key : ∀ (u : Int32), g_Rules_send_109 r a (nI hh) (nI gl) u (zup h a (zI32 123 (sG fm g hh))) = some (if gl < n then (if w < 8 then (nI 1, zup h a (zI32 123 (pushW (sG fm g hh) w (nI hh) (nI gl) u))) else (-3, zup h a (zI32 123 (sG fm g hh)))) else (nI 1, zup h a (zI32 123 (sG fm g hh)))) := fun u => s_send109 hr q ha H hgl (by rw [sG_18 _ hh6]; exact hw) w8 u
  have fin : ∀ (u : Int32), u = sU fm g hh → some (if gl < n then (if w < 8 then (nI 1, zup h a (zI32 123 (pushW (sG fm g hh) w (nI hh) (nI gl) u))) else (-3, zup h a (zI32 123 (sG fm g hh)))) else (nI 1, zup h a (zI32 123 (sG fm g hh)))) = some ((aSend fm n g hh gl).1, zup h a (zI32 123 (aSend fm n g hh gl).2)) := by
    intro u hu
    unfold aSend
    rw [cnt_nI hw (by omega), ← hu]
    by_cases c : gl < n
    · rw [if_pos c, if_pos c]
      by_cases c2 : w < 8
      · rw [if_pos c2, if_pos c2]
      · rw [if_neg c2, if_neg c2]
    · rw [if_neg c, if_neg c]
  have st : m_Rules_send r a (nI hh) (nI gl) (zup h a (zI32 123 g)) = g_Rules_send_109 r a (nI hh) (nI gl) (sU fm g hh) (zup h a (zI32 123 (sG fm g hh))) := by
    have b0 : ∀ e, zrI (zup h a e) r 3 2 = some (nI fm) := rl_fam hr q
    have p0 : m_Rules_partUnits a (nI hh) (zup h a (zI32 123 (sG0 g hh))) = _ := s_partU hh6
    have z0 : zsI (zup h a (zI32 123 (upd g (12 + hh) (g (12 + hh) + nI 1)))) a (nI 121) (g 121 + nI 1) = some (zup h a (zI32 123 (sG0 g hh))) := zS32_st (by omega) (by omega)
    rcases (show fm = 0 ∨ fm = 1 ∨ fm = 2 ∨ fm = 3 ∨ fm = 4 ∨ fm = 5 by omega) with rfl | rfl | rfl | rfl | rfl | rfl
    all_goals (simp (disch := omega) only [m_Rules_send, zaI, zA32_ld, zsI, zS32_st, bind_some', nI_add, upd_ne, b0, nI_eq_iff]; simp (disch := omega) [sG, sU, sG0, zA32_ld, zS32_st, bind_some', upd_ne, zb2_some, s_partU hh6, puR, puH])
  rw [st, key, fin _ rfl]
end RV
