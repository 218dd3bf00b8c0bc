/-! A WHOLE STEP OF THE CLASS; THE BEGINNING -/
section AP
variable {h : zH} {a r : Nat} {g : Nat → Int32} {kd fm n c : Nat} {nw : Nat → Int32 → Nat} {go : Nat → Int32 → Nat → Nat}
theorem lvL_43 (hn : n ≤ 6) : ∀ (d hh : Nat) (g : Nat → Int32) (k : Nat), 0 < hh → hh + d ≤ n → g 43 = nI k → k ≤ 8 → ∃ k', k' ≤ 8 ∧ (lvL kd d hh g).2 43 = nI k' := by
  intro d
  induction d with
  | zero => intro hh g k _ _ hk k8; exact ⟨k, k8, hk⟩
  | succ d ih =>
    intro hh g k h0 hd hk k8
    obtain ⟨k', k8', hk'⟩ := lvS_43 (kd := kd) (g := g) (hh := hh) (by omega) hk k8
    unfold lvL
    split
    · exact ih (hh + 1) _ k' (by omega) (by omega) hk' k8'
    · exact ⟨k', k8', hk'⟩
theorem s_see115 (hr : h r = ruE kd fm) (hfm : fm < 6) (q : r ≠ a) (p : cA) : g_Rules_apply_115 r a p.1 (zup h a (zI32 123 p.2)) = some ((aSee fm p).1, zup h a (zI32 123 (aSee fm p).2)) := by
  unfold aSee
  by_cases e : p.1 = nI 1
  · by_cases e2 : sees fm p.2
    · rw [if_pos ⟨e, e2⟩]
      simp (disch := omega) only [g_Rules_apply_115, eq_true e, if_true, rl_zcv hr q, s_sees hr hfm q, eq_true e2, bind_some', nI1_0, if_false, zsI, zS32_st]
    · rw [if_neg (fun z => e2 z.2)]
      simp (disch := omega) only [g_Rules_apply_115, eq_true e, if_true, rl_zcv hr q, s_sees hr hfm q, eq_false e2, bind_some', if_false, nI0_0]
  · rw [if_neg (fun z => e z.1)]
    simp only [g_Rules_apply_115, eq_false e, if_false]
theorem s_fin94 (hr : h r = ruE kd fm) (hkd : kd < 9) (hfm : fm < 6) (q : r ≠ a) (ha : 18 ≤ a) (H : HU n nw go h) (hn0 : 0 < n) (p : cA) (hp : p.1 = nI 1 → ∃ k, k ≤ 8 ∧ p.2 43 = nI k) : g_Rules_apply_94 r a p.1 (zup h a (zI32 123 p.2)) = some ((aFin fm kd n p).1, zup h a (zI32 123 (aFin fm kd n p).2)) := by
  unfold aFin
  by_cases e : p.1 = nI 1
  · obtain ⟨k, k8, hk⟩ := hp e
    rw [if_pos e]
    by_cases f : fm = 2
    · rw [if_pos f]
      simp (disch := omega) only [g_Rules_apply_94, eq_true e, if_true, rl_fam hr q, bind_some', nI_eq_iff, eq_true f, rl_zcv hr q, s_leave hr hkd q ha H hn0 hk k8, zb2_some]
      exact s_see115 hr hfm q _
    · rw [if_neg f]
      simp (disch := omega) only [g_Rules_apply_94, eq_true e, if_true, rl_fam hr q, bind_some', nI_eq_iff, eq_false f, if_false]
      exact s_see115 hr hfm q _
  · rw [if_neg e]
    simp only [g_Rules_apply_94, g_Rules_apply_115, eq_false e, if_false]
theorem IV.k43 {s : Nat} (h : IV fm n c s g) : ∃ k, k ≤ 8 ∧ g 43 = nI k := by
  obtain ⟨-, ⟨k, k8, hk, -⟩, -⟩ := h
  exact ⟨k, k8, hk⟩
theorem s_goOn_no (hr : h r = ruE kd fm) (q : r ≠ a) (ha : 18 ≤ a) (H : HU n nw go h) {x : Int32} (hx : ix x n = none) : m_Rules_goOn r a x (zup h a (zI32 123 g)) = some (-5, zup h a (zI32 123 g)) := by
  have e : m_Huts_has 2 x (zup h a (zI32 123 g)) = some (nI 0) := by
    rw [(H.up ha _ (fun _ _ _ => rfl)).2.2.1 x, hx]
    simp
  simp only [m_Rules_goOn, rl_huts hr q, bind_some', hu_zcv H ha, e, nI0_0, if_true]
theorem s_apply (hr : h r = ruE kd fm) (hkd : kd < 9) (hf : fm = fmo kd) (q : r ≠ a) (ha : 18 ≤ a) (H : HU n nw go h) (hn0 : 0 < n) (hc : c ≤ 1000000) {sort : Nat} (hs : sort < 1000) (i : Int32) (hV : IV fm n c 0 g) : m_Rules_apply r a (nI sort) i (zup h a (zI32 123 g)) = some ((aStep kd fm n nw go sort i g).1, zup h a (zI32 123 (aStep kd fm n nw go sort i g).2)) := by
  have hn := hu_n H
  have hfm : fm < 6 := by rw [hf]; exact fmo_lt kd
  have ok := hV.ok hn
  obtain ⟨⟨w, w8, hw, -, -⟩, ⟨k, k8, hk, -, -⟩, -⟩ := id hV
  have ew : cnt g 18 = w := cnt_nI hw (by omega)
  have ek : cnt g 43 = k := cnt_nI hk (by omega)
  have hnw : ∀ hh, hh < n → ∀ l, nw hh l ≤ 270 := fun hh b l => hu_nw H b l
  have fin : ∀ p : cA, (p.1 = nI 1 → ∃ k, k ≤ 8 ∧ p.2 43 = nI k) → g_Rules_apply_94 r a p.1 (zup h a (zI32 123 p.2)) = some ((aFin fm kd n p).1, zup h a (zI32 123 (aFin fm kd n p).2)) := fun p hp => s_fin94 hr hkd hfm q ha H hn0 p hp
  unfold aStep
  rcases (show sort = 0 ∨ sort = 1 ∨ sort = 2 ∨ sort = 3 ∨ sort = 4 ∨ 5 ≤ sort by omega) with rfl | rfl | rfl | rfl | rfl | h5
  · rcases ix_cases i n (by omega) with ⟨z, -⟩ | ⟨hh, hh6, rfl, z⟩
    · have e0 := fin (-5, g) (fun y => absurd y n5ne)
      simp (disch := omega) only [m_Rules_apply, nI_eq_iff, if_true, rl_zcv hr q, s_goOn_no hr q ha H z, zb2_some, z]
      exact e0
    · have e0 := fin (aGoOn fm n nw go g hh) (fun y => (hV.goOn hn hfm hh6 hc (hnw hh hh6) y).k43)
      simp (disch := omega) only [m_Rules_apply, nI_eq_iff, if_true, rl_zcv hr q, s_goOn hr hfm q ha H hh6 ok, zb2_some, z]
      exact e0
  · rw [ew]
    have n1 : ((1 : Nat) = 0) = False := by simp
    rcases ix_cases i w (by omega) with ⟨z, -⟩ | ⟨j, hj, rfl, z⟩
    · have e0 := fin (-5, g) (fun y => absurd y n5ne)
      simp (disch := omega) only [m_Rules_apply, nI_eq_iff, n1, if_false, if_true, rl_zcv hr q, s_come_no hw w8 z, zb2_some, z]
      exact e0
    · have e0 := fin (aCome fm kd g j) (fun y => (hV.come hn hfm hw w8 hj y).k43)
      simp (disch := omega) only [m_Rules_apply, nI_eq_iff, n1, if_false, if_true, rl_zcv hr q, s_come hr hkd hfm q ha H hn ok hw w8 hj, zb2_some, z]
      exact e0
  · rw [ek]
    have n1 : ((2 : Nat) = 0) = False := by simp
    have n2 : ((2 : Nat) = 1) = False := by simp
    rcases ix_cases i k (by omega) with ⟨z, -⟩ | ⟨j, hj, rfl, z⟩
    · have e0 := fin (-5, g) (fun y => absurd y n5ne)
      simp (disch := omega) only [m_Rules_apply, nI_eq_iff, n1, n2, if_false, if_true, rl_zcv hr q, s_cn_no hk k8 z, zb2_some, z]
      exact e0
    · have e0 := fin (aCN fm kd n g j) (fun y => (hV.cn hn hn0 hfm hk k8 hj y).k43)
      simp (disch := omega) only [m_Rules_apply, nI_eq_iff, n1, n2, if_false, if_true, rl_zcv hr q, s_cn hr hkd hfm q ha H ok hk k8 hj, zb2_some, z]
      exact e0
  · have n1 : ((3 : Nat) = 0) = False := by simp
    have n2 : ((3 : Nat) = 1) = False := by simp
    have n3 : ((3 : Nat) = 2) = False := by simp
    by_cases z : i = 0
    · have e0 := fin (aAsk fm n g) (fun y => (hV.ask hn hn0 y).k43)
      have z0 : i = nI 0 := z.trans nI_0.symm
      simp (disch := omega) only [m_Rules_apply, nI_eq_iff, n1, n2, n3, if_false, if_true, rl_zcv hr q, z0, s_ask hr hkd hf q ha H hn0 hk k8, zb2_some, nI0_0]
      exact e0
    · have e0 := fin (-5, g) (fun y => absurd y n5ne)
      simp (disch := omega) only [m_Rules_apply, nI_eq_iff, n1, n2, n3, if_false, if_true, rl_zcv hr q, s_ask_no z, zb2_some, eq_false z]
      exact e0
  · rw [ew]
    have n1 : ((4 : Nat) = 0) = False := by simp
    have n2 : ((4 : Nat) = 1) = False := by simp
    have n3 : ((4 : Nat) = 2) = False := by simp
    have n4 : ((4 : Nat) = 3) = False := by simp
    rcases ix_cases i w (by omega) with ⟨z, -⟩ | ⟨j, hj, rfl, z⟩
    · have e0 := fin (-5, g) (fun y => absurd y n5ne)
      simp (disch := omega) only [m_Rules_apply, nI_eq_iff, n1, n2, n3, n4, if_false, if_true, s_lose_no hw w8 z, zb2_some, z]
      exact e0
    · have e0 := fin (nI 1, takeW g j) (fun _ => ⟨k, k8, (tW_hi j (by omega)).trans hk⟩)
      simp (disch := omega) only [m_Rules_apply, nI_eq_iff, n1, n2, n3, n4, if_false, if_true, s_lose hw w8 hj, zb2_some, z]
      exact e0
  · obtain ⟨z, rfl⟩ : ∃ z, sort = z + 5 := ⟨sort - 5, by omega⟩
    have e0 := fin (-5, g) (fun y => absurd y n5ne)
    have n0 : (z + 5 = 0) = False := eq_false (by omega)
    have n1 : (z + 5 = 1) = False := eq_false (by omega)
    have n2 : (z + 5 = 2) = False := eq_false (by omega)
    have n3 : (z + 5 = 3) = False := eq_false (by omega)
    have n4 : (z + 5 = 4) = False := eq_false (by omega)
    simp (disch := omega) only [m_Rules_apply, nI_eq_iff, n0, n1, n2, n3, n4, if_false]
    exact e0
end AP
/-- a state at its beginning -/
def g0 (fm : Nat) : Nat → Int32 := fun j => if j = 0 ∨ j = 6 then nI 1 else if fm = 1 ∧ (j = 68 ∨ j = 74) then nI 64 else if fm = 2 ∧ j = 87 then nI 1 else if fm = 2 ∧ 81 ≤ j ∧ j < 87 then -1 else 0
theorem s_fill_l {h : zH} {a m : Nat} (hm : m ≤ 1000) (x : Int32) : ∀ (d j f : Nat) (g : Nat → Int32), m - j = d → j ≤ m → d < f → zloop (g_Fill_I_5 a x (nI m)) f (nI j, zup h a (zI32 m g)) = some (zup h a (zI32 m (fun k => if j ≤ k ∧ k < m then x else g k))) := by
  intro d
  induction d with
  | zero =>
    intro j f g hd hj hf
    obtain ⟨f, rfl⟩ : ∃ k, f = k + 1 := ⟨f - 1, by omega⟩
    show g_Fill_I_5 a x (nI m) _ (nI j, zup h a (zI32 m g)) = _
    have c : (m ≤ j) = True := eq_true (by omega)
    simp (disch := omega) only [g_Fill_I_5, nI_le_iff, c, if_true]
    refine congrArg (fun z => some (zup h a (zI32 m z))) (funext fun k => ?_)
    rw [if_neg (by omega)]
  | succ d ih =>
    intro j f g hd hj hf
    obtain ⟨f, rfl⟩ : ∃ k, f = k + 1 := ⟨f - 1, by omega⟩
    show g_Fill_I_5 a x (nI m) (zloop (g_Fill_I_5 a x (nI m)) f) (nI j, zup h a (zI32 m g)) = _
    have c : (m ≤ j) = False := eq_false (by omega)
    simp (disch := omega) only [g_Fill_I_5, nI_le_iff, c, if_false, zsI, zS32_st, bind_some', nI_add]
    rw [ih (j + 1) f _ (by omega) (by omega) (by omega)]
    refine congrArg (fun z => some (zup h a (zI32 m z))) (funext fun k => ?_)
    unfold upd
    by_cases e : k = j
    · rw [if_neg (by omega), if_pos e, if_pos (by omega)]
    · by_cases e2 : j ≤ k ∧ k < m
      · rw [if_pos (by omega), if_pos e2]
      · rw [if_neg (by omega), if_neg e, if_neg e2]
theorem s_fill {h : zH} {a m : Nat} {g : Nat → Int32} (hm : m ≤ 1000) (x : Int32) : m_Fill_I a x (zup h a (zI32 m g)) = some (zup h a (zI32 m (fun k => if k < m then x else g k))) := by
  have e : zlen (zup h a (zI32 m g)) a = some (nI m) := by
    unfold zlen
    rw [zup_eq]
    rfl
  simp only [m_Fill_I, e, bind_some']
  have := s_fill_l (h := h) (a := a) hm x (m - 0) 0 zN g rfl (by omega) (by have := zN_big; omega)
  rw [this]
  refine congrArg (fun z => some (zup h a (zI32 m z))) (funext fun k => ?_)
  by_cases e2 : k < m
  · rw [if_pos ⟨Nat.zero_le _, e2⟩, if_pos e2]
  · rw [if_neg (by omega), if_neg e2]
