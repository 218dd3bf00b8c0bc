/-! A RUN OF THE CLASS GOES ON -/
section AHI
variable {h : zH} {a r : Nat} {g : Nat → Int32} {kd fm n c : Nat} {nw : Nat → Int32 → Nat} {go : Nat → Int32 → Nat → Nat}
def hi (g : Nat → Int32) : Prop := ∀ j, 123 ≤ j → g j = 0
theorem hi.u {k : Nat} {x : Int32} (hg : hi g) (hk : k < 123) : hi (upd g k x) := fun j hj => by rw [upd_ne (by omega)]; exact hg j hj
theorem hi.cgg {st i : Nat} (hg : hi g) (hs : st + 8 ≤ 123) : hi (cg g st i) := fun j hj => by
  unfold cg
  rw [if_neg (by omega), if_neg (by omega)]
  exact hg j hj
theorem hi.pN {k : Nat} {x y z : Int32} (hg : hi g) (hk : k < 8) : hi (pushN g k x y z) := by
  unfold pushN
  exact ((((hg.u (by omega)).u (by omega)).u (by omega)).u (by omega)).u (by omega)
theorem hi.pW {k : Nat} {x y z : Int32} (hg : hi g) (hk : k < 8) : hi (pushW g k x y z) := by
  unfold pushW
  exact (((hg.u (by omega)).u (by omega)).u (by omega)).u (by omega)
theorem hi.note {x y z : Int32} (hg : hi g) : hi (aNote g x y z).2 := by
  unfold aNote
  split
  · exact hg.pN (by assumption)
  · exact hg
theorem hi.tW {i : Nat} (hg : hi g) : hi (takeW g i) := by
  unfold takeW
  exact (((hg.u (by omega)).cgg (by omega)).cgg (by omega)).cgg (by omega)
theorem hi.tN {i : Nat} (hg : hi g) : hi (takeN g i) := by
  unfold takeN
  exact (((hg.u (by omega)).cgg (by omega)).cgg (by omega)).cgg (by omega)
theorem hi.sg {hh : Nat} (hg : hi g) (q : hh < 6) : hi (sG fm g hh) := by
  have h0 : hi (sG0 g hh) := (hg.u (by omega)).u (by omega)
  unfold sG
  split
  · unfold puR puG
    split
    · exact h0.u (by omega)
    · exact ((h0.u (by omega)).u (by omega)).u (by omega)
  · split
    · exact h0.u (by omega)
    · split
      · exact h0.u (by omega)
      · split
        · exact h0.u (by omega)
        · exact h0
theorem hi.send {hh gl : Nat} (hg : hi g) (q : hh < 6) : hi (aSend fm n g hh gl).2 := by
  unfold aSend
  split
  · split
    · exact (hg.sg q).pW (by assumption)
    · exact hg.sg q
  · exact hg.sg q
theorem hi.goOn {hh : Nat} (hg : hi g) (q : hh < 6) : hi (aGoOn fm n nw go g hh).2 := by
  unfold aGoOn
  split
  · exact hg
  · split
    · split
      · split
        · exact hg.u (by omega)
        · split
          · exact hg.u (by omega)
          · exact ((hg.u (by omega)).u (by omega)).note
      · exact hg.u (by omega)
    · exact hg.send q
theorem hi.come {i : Nat} (hg : hi g) (q : cnt g (27 + i) < 6) : hi (aCome fm kd g i).2 := by
  have h0 : hi (wake (takeW g i) (cnt g (27 + i))) := by
    unfold wake
    split
    · exact ((hg.tW.u (by omega)).u (by omega)).u (by omega)
    · exact hg.tW
  unfold aCome aCome2
  split
  · exact h0.u (by omega)
  · split
    · unfold aJoin
      split
      · exact h0.note
      · exact (h0.u (by omega)).u (by omega)
    · split
      · exact (h0.u (by omega)).u (by omega)
      · split
        · exact h0.u (by omega)
        · exact h0
theorem hi.cn {i : Nat} (hg : hi g) (q : cnt g (44 + i) < 6) : hi (aCN fm kd n g i).2 := by
  have h0 : hi (takeN g i) := hg.tN
  unfold aCN
  split
  · exact hg
  · unfold aCN2
    split
    · exact h0.u (by omega)
    · split
      · exact h0.u (by omega)
      · split
        · unfold aStone
          split
          · show hi (if _ then _ else _)
            split
            · exact h0.u (by omega)
            · exact h0
          · exact (h0.u (by omega)).note
        · split
          · unfold aSums
            split
            · show hi (if _ then _ else _)
              split
              · exact h0.u (by omega)
              · exact ((h0.u (by omega)).u (by omega)).u (by omega)
            · exact h0.note
          · exact h0
theorem hi.ask (hg : hi g) : hi (aAsk fm n g).2 := by
  unfold aAsk
  split
  · split
    · exact (hg.u (by omega)).note
    · split
      · exact hg.note
      · exact hg
  · exact hg
theorem hi.lvs {hh : Nat} (hg : hi g) (q : hh < 6) : hi (lvS kd g hh).2 := by
  unfold lvS
  split
  · exact (hg.note.u (by omega)).u (by omega)
  · exact hg
theorem hi.lvl : ∀ (d hh : Nat) (g : Nat → Int32), hh + d ≤ 6 → hi g → hi (lvL kd d hh g).2 := by
  intro d
  induction d with
  | zero => intro hh g _ hg; exact hg
  | succ d ih =>
    intro hh g hd hg
    unfold lvL
    split
    · exact ih _ _ (by omega) (hg.lvs (by omega))
    · exact hg.lvs (by omega)
theorem hi.fin {p : cA} (hn : n ≤ 6) (hg : hi p.2) : hi (aFin fm kd n p).2 := by
  have see : ∀ q : cA, hi q.2 → hi (aSee fm q).2 := by
    intro q hq
    unfold aSee
    split
    · exact hq.u (by omega)
    · exact hq
  unfold aFin
  split
  · split
    · refine see _ ?_
      unfold aLeave
      rcases Nat.eq_zero_or_pos n with z | z
      · subst z; exact hg
      · exact hi.lvl _ _ _ (by omega) hg
    · exact see _ hg
  · exact hg
theorem hi.step {s sort : Nat} {i : Int32} (hn : n ≤ 6) (hV : IV fm n c s g) : hi (aStep kd fm n nw go sort i g).2 := by
  have hg : hi g := hV.2.2.2.2.2.2.2.2
  obtain ⟨⟨w, w8, hw, hwt, -⟩, ⟨k, k8, hk, hkt, -⟩, -⟩ := id hV
  unfold aStep
  refine hi.fin hn ?_
  rcases sort with _ | _ | _ | _ | _ | sort
  · rcases ix_cases i n (by omega) with ⟨z, -⟩ | ⟨hh, hh6, rfl, z⟩
    · simp only [z]; exact hg
    · simp only [z]; exact hg.goOn (by omega)
  · simp only [cnt_nI hw (by omega)]
    rcases ix_cases i w (by omega) with ⟨z, -⟩ | ⟨j, hj, rfl, z⟩
    · simp only [z]; exact hg
    · simp only [z]
      obtain ⟨f, t, -, tn, -, et⟩ := hwt j hj
      exact hg.come (by rw [cnt_nI et (by omega)]; omega)
  · simp only [cnt_nI hk (by omega)]
    rcases ix_cases i k (by omega) with ⟨z, -⟩ | ⟨j, hj, rfl, z⟩
    · simp only [z]; exact hg
    · simp only [z]
      obtain ⟨t, tn, et⟩ := hkt j hj
      exact hg.cn (by rw [cnt_nI et (by omega)]; omega)
  · show hi (if i = 0 then aAsk fm n g else (-5, g)).2
    split
    · exact hg.ask
    · exact hg
  · simp only [cnt_nI hw (by omega)]
    rcases ix_cases i w (by omega) with ⟨z, -⟩ | ⟨j, hj, rfl, z⟩
    · simp only [z]; exact hg
    · simp only [z]; exact hg.tW
  · exact hg
end AHI
/-- over in truth -/
def ovr (g : Nat → Int32) : Prop := g 18 = 0 ∧ ∀ hh, hh < 6 → g hh = 0
noncomputable def ovN (g : Nat → Int32) : Int32 := @ite _ (ovr g) (Classical.propDecidable _) (nI 1) (nI 0)
theorem ovN_1 {g : Nat → Int32} (q : ovr g) : ovN g = nI 1 := @if_pos _ (Classical.propDecidable _) q _ _ _
theorem ovN_0 {g : Nat → Int32} (q : ¬ ovr g) : ovN g = nI 0 := @if_neg _ (Classical.propDecidable _) q _ _ _
section ADV
variable {h : zH} {a r : Nat} {g : Nat → Int32} {kd fm n c : Nat} {nw : Nat → Int32 → Nat} {go : Nat → Int32 → Nat → Nat}
theorem s_isOver_l (ha : h a = zI32 123 g) (hb : ∀ hh, hh < 6 → g hh = 0 ∨ g hh = nI 1) : ∀ (d j f : Nat), 6 - j = d → j ≤ 6 → d < f → (∀ i, i < j → g i = 0) → zloop (g_Home_isOver_2 a h) f (nI j) = some (ovN g) := by
  intro d
  induction d with
  | zero =>
    intro j f hd hj hf hz
    obtain ⟨f, rfl⟩ : ∃ k, f = k + 1 := ⟨f - 1, by omega⟩
    show g_Home_isOver_2 a h _ (nI j) = _
    have c : (6 ≤ j) = True := eq_true (by omega)
    have e18 : zaI h a (nI 18) = some (g 18) := zA32_of ha (by omega) (by omega)
    by_cases z : g 18 = 0
    · rw [ovN_1 ⟨z, fun hh q => hz hh (by omega)⟩]
      simp (disch := omega) only [g_Home_isOver_2, nI_le_iff, c, if_true, e18, bind_some', eq_true z]
    · rw [ovN_0 (fun q => z q.1)]
      simp (disch := omega) only [g_Home_isOver_2, nI_le_iff, c, if_true, e18, bind_some', eq_false z, if_false]
  | succ d ih =>
    intro j f hd hj hf hz
    obtain ⟨f, rfl⟩ : ∃ k, f = k + 1 := ⟨f - 1, by omega⟩
    show g_Home_isOver_2 a h (zloop (g_Home_isOver_2 a h) f) (nI j) = _
    have c : (6 ≤ j) = False := eq_false (by omega)
    have ej : zaI h a (nI (0 + j)) = some (g j) := by rw [Nat.zero_add]; exact zA32_of ha (by omega) (by omega)
    by_cases z : g j = nI 1
    · rw [ovN_0 (fun q => by rw [q.2 j (by omega)] at z; exact absurd z (by decide))]
      simp (disch := omega) only [g_Home_isOver_2, nI_le_iff, c, if_false, nI_add, ej, bind_some', eq_true z, if_true]
    · have z0 : g j = 0 := (hb j (by omega)).resolve_right z
      simp (disch := omega) only [g_Home_isOver_2, nI_le_iff, c, if_false, nI_add, ej, bind_some', eq_false z]
      refine ih (j + 1) f (by omega) (by omega) (by omega) fun i hi => ?_
      rcases Nat.lt_or_ge i j with q | q
      · exact hz i q
      · rw [show i = j by omega]; exact z0
theorem s_isOver (ha : h a = zI32 123 g) (hb : ∀ hh, hh < 6 → g hh = 0 ∨ g hh = nI 1) : m_Home_isOver a h = some (ovN g) := by
  have z := zN_big
  exact s_isOver_l ha hb 6 0 zN rfl (by omega) (by omega) (fun i hi => by omega)
def RunE (r : Nat) (w c sa oa : Int32) : zE := .inl (4, [.ref (648 + 3 * r), .ref (647 + 3 * r), .int w, .int c, .int sa, .int oa])
theorem RunE_rd {w c sa oa : Int32} (ha : h (646 + 3 * r) = RunE r w c sa oa) : zcls h (646 + 3 * r) = 4 ∧ zrR h (646 + 3 * r) 4 0 = some (648 + 3 * r) ∧ zrR h (646 + 3 * r) 4 1 = some (647 + 3 * r) ∧ zrI h (646 + 3 * r) 4 2 = some w ∧ zrI h (646 + 3 * r) 4 3 = some c ∧ zrI h (646 + 3 * r) 4 4 = some sa ∧ zrI h (646 + 3 * r) 4 5 = some oa ∧ (∀ x, zwI h (646 + 3 * r) 4 2 x = some (zup h (646 + 3 * r) (RunE r x c sa oa))) ∧ (∀ x, zwI h (646 + 3 * r) 4 3 x = some (zup h (646 + 3 * r) (RunE r w x sa oa))) ∧ (∀ x, zwI h (646 + 3 * r) 4 4 x = some (zup h (646 + 3 * r) (RunE r w c x oa))) ∧ ∀ x, zwI h (646 + 3 * r) 4 5 x = some (zup h (646 + 3 * r) (RunE r w c sa x)) :=
  ⟨zcls_of ha, zrR_of ha rfl, zrR_of ha rfl, zrI_of ha rfl, zrI_of ha rfl, zrI_of ha rfl, zrI_of ha rfl, fun x => zwI_of ha (by simp), fun x => zwI_of ha (by simp), fun x => zwI_of ha (by simp), fun x => zwI_of ha (by simp)⟩
/-- when over was first so -/
noncomputable def oaN (g : Nat → Int32) (c : Nat) (oa : Int32) : Int32 := @ite _ (ovr g) (Classical.propDecidable _) (if oa = -2 then nI c else oa) (-2)
def saN (g : Nat → Int32) (c : Nat) (sa : Int32) : Int32 := if g 120 = nI 1 ∧ sa = -2 then nI c else sa
theorem s_adv83 {w sa oa : Int32} (h1 : h (646 + 3 * r) = RunE r w (nI c) sa oa) (h2 : h (647 + 3 * r) = zI32 123 g) (hb : ∀ hh, hh < 6 → g hh = 0 ∨ g hh = nI 1) : g_Run_advance_83 (646 + 3 * r) h = some (nI c, zup h (646 + 3 * r) (RunE r w (nI c) sa (oaN g c oa))) := by
  obtain ⟨-, -, r1, -, r3, -, r5, -, -, -, w5⟩ := RunE_rd h1
  have r3' : ∀ x, zrI (zup h (646 + 3 * r) (RunE r w (nI c) sa x)) (646 + 3 * r) 4 3 = some (nI c) := fun x => (RunE_rd (zup_eq _ _ _)).2.2.2.2.1
  have io := s_isOver h2 hb
  have n1 := nI1_0
  have n0 := nI0_0
  by_cases z : ovr g
  · rw [ovN_1 z] at io
    have e : oaN g c oa = if oa = -2 then nI c else oa := @if_pos _ (Classical.propDecidable _) z _ _ _
    rw [e]
    by_cases y : oa = -2
    · rw [if_pos y]
      simp only [g_Run_advance_83, r1, bind_some', io, n1, if_false, r5, eq_true y, if_true, r3, w5, r3']
    · rw [if_neg y]
      simp only [g_Run_advance_83, r1, bind_some', io, n1, if_false, r5, eq_false y, r3]
      rw [zup_self h1]
  · rw [ovN_0 z] at io
    have e : oaN g c oa = -2 := @if_neg _ (Classical.propDecidable _) z _ _ _
    rw [e]
    simp only [g_Run_advance_83, r1, bind_some', io, n0, if_true, w5, r3']
theorem s_advance {sort w : Nat} {i : Int32} {sp : Nat → Int32} {x sa oa : Int32} (hr4 : r < 4) (h1 : h (646 + 3 * r) = RunE r x (nI c) sa oa) (h2 : h (647 + 3 * r) = zI32 123 g) (h3 : h (648 + 3 * r) = ruE kd fm) (h20 : h 20 = zI32 123 sp) (hsp : hi sp) (hkd : kd < 9) (hf : fm = fmo kd) (H : HU n nw go h) (hn0 : 0 < n) (hc : c ≤ 1000000) (hs : sort < 1000) (hV : IV fm n c 0 g) :
    m_Run_advance (646 + 3 * r) 20 (nI sort) i h = some (if (aStep kd fm n nw go sort i g).1 = nI 1 then (nI (c + 1), zup (zup (zup h 20 (zI32 123 (aStep kd fm n nw go sort i g).2)) (647 + 3 * r) (zI32 123 (aStep kd fm n nw go sort i g).2)) (646 + 3 * r) (RunE r x (nI (c + 1)) (saN (aStep kd fm n nw go sort i g).2 (c + 1) sa) (oaN (aStep kd fm n nw go sort i g).2 (c + 1) oa))) else ((aStep kd fm n nw go sort i g).1, zup h 20 (zI32 123 (aStep kd fm n nw go sort i g).2))) := by
  have hn := hu_n H
  have hfm : fm < 6 := by rw [hf]; exact fmo_lt kd
  have hg : hi g := hV.2.2.2.2.2.2.2.2
  obtain ⟨-, r0, r1, -, -, -, -, -⟩ := RunE_rd h1
  have cp : zcpI h (647 + 3 * r) (nI 0) 20 (nI 0) (nI 123) = some (zup h 20 (zI32 123 g)) := by
    rw [zcpI_of h2 h20 (by omega) (by omega) (by omega), va_cpy_all hg hsp]
  have r0' : ∀ e, zrR (zup h 20 e) (646 + 3 * r) 4 0 = some (648 + 3 * r) := fun e => by rw [zrR_ne (by omega)]; exact r0
  have r1' : ∀ e, zrR (zup h 20 e) (646 + 3 * r) 4 1 = some (647 + 3 * r) := fun e => by rw [zrR_ne (by omega)]; exact r1
  have cv : ∀ e (o : Option (Int32 × zH)), zcv (zup h 20 e) (648 + 3 * r) 3 o = o := fun e o => rl_zcv h3 (by omega) e o
  have ap := s_apply (a := 20) (i := i) h3 hkd hf (by omega) (by omega) H hn0 hc hs hV
  have hp := hi.step (kd := kd) (nw := nw) (go := go) (sort := sort) (i := i) hn hV
  have hst : (aStep kd fm n nw go sort i g).1 = nI 1 → IV fm n (c + 1) 0 (aStep kd fm n nw go sort i g).2 := fun e => hV.step hn hn0 hfm hc (fun hh b l => hu_nw H b l) e
  revert ap hp hst
  generalize aStep kd fm n nw go sort i g = p
  intro ap hp hst
  by_cases e : p.1 = nI 1
  · rw [if_pos e]
    have hb := (hst e).2.2.1.1
    have cp2 : zcpI (zup h 20 (zI32 123 p.2)) 20 (nI 0) (647 + 3 * r) (nI 0) (nI 123) = some (zup (zup h 20 (zI32 123 p.2)) (647 + 3 * r) (zI32 123 p.2)) := by
      rw [zcpI_of (zup_eq _ _ _) (by rw [zup_ne (by omega)]; exact h2) (by omega) (by omega) (by omega), va_cpy_all hp hg]
    have q1 : (zup (zup h 20 (zI32 123 p.2)) (647 + 3 * r) (zI32 123 p.2)) (646 + 3 * r) = RunE r x (nI c) sa oa := by rw [zup_ne (by omega), zup_ne (by omega)]; exact h1
    have q3 := (RunE_rd q1).2.2.2.2.1
    have w3 := (RunE_rd q1).2.2.2.2.2.2.2.2.1
    have q1' : ∀ y z u v, zup (zup (zup h 20 (zI32 123 p.2)) (647 + 3 * r) (zI32 123 p.2)) (646 + 3 * r) (RunE r y z u v) (646 + 3 * r) = RunE r y z u v := fun y z u v => zup_eq _ _ _
    have s3 : ∀ y z u v, zrI (zup (zup (zup h 20 (zI32 123 p.2)) (647 + 3 * r) (zI32 123 p.2)) (646 + 3 * r) (RunE r y z u v)) (646 + 3 * r) 4 3 = some z := fun y z u v => (RunE_rd (q1' y z u v)).2.2.2.2.1
    have s4 : ∀ y z u v, zrI (zup (zup (zup h 20 (zI32 123 p.2)) (647 + 3 * r) (zI32 123 p.2)) (646 + 3 * r) (RunE r y z u v)) (646 + 3 * r) 4 4 = some u := fun y z u v => (RunE_rd (q1' y z u v)).2.2.2.2.2.1
    have s1 : ∀ y z u v, zrR (zup (zup (zup h 20 (zI32 123 p.2)) (647 + 3 * r) (zI32 123 p.2)) (646 + 3 * r) (RunE r y z u v)) (646 + 3 * r) 4 1 = some (647 + 3 * r) := fun y z u v => (RunE_rd (q1' y z u v)).2.2.1
    have s4w : ∀ y z u v t, zwI (zup (zup (zup h 20 (zI32 123 p.2)) (647 + 3 * r) (zI32 123 p.2)) (646 + 3 * r) (RunE r y z u v)) (646 + 3 * r) 4 4 t = some (zup (zup (zup h 20 (zI32 123 p.2)) (647 + 3 * r) (zI32 123 p.2)) (646 + 3 * r) (RunE r y z t v)) := fun y z u v t => by rw [(RunE_rd (q1' y z u v)).2.2.2.2.2.2.2.2.2.1 t, zup_zup]
    have q2' : ∀ y z u v, zup (zup (zup h 20 (zI32 123 p.2)) (647 + 3 * r) (zI32 123 p.2)) (646 + 3 * r) (RunE r y z u v) (647 + 3 * r) = zI32 123 p.2 := fun y z u v => by rw [zup_ne (by omega), zup_eq]
    have l120 : ∀ y z u v, zaI (zup (zup (zup h 20 (zI32 123 p.2)) (647 + 3 * r) (zI32 123 p.2)) (646 + 3 * r) (RunE r y z u v)) (647 + 3 * r) (nI 120) = some (p.2 120) := fun y z u v => zA32_of (q2' y z u v) (by omega) (by omega)
    have a83 : ∀ u v, g_Run_advance_83 (646 + 3 * r) (zup (zup (zup h 20 (zI32 123 p.2)) (647 + 3 * r) (zI32 123 p.2)) (646 + 3 * r) (RunE r x (nI (c + 1)) u v)) = some (nI (c + 1), zup (zup (zup h 20 (zI32 123 p.2)) (647 + 3 * r) (zI32 123 p.2)) (646 + 3 * r) (RunE r x (nI (c + 1)) u (oaN p.2 (c + 1) v))) := fun u v => by rw [s_adv83 (q1' _ _ _ _) (q2' _ _ _ _) hb, zup_zup]
    unfold saN
    by_cases y : p.2 120 = nI 1
    · by_cases z : sa = -2
      · rw [if_pos ⟨y, z⟩]
        simp only [m_Run_advance, r1, bind_some', cp, r0', cv, ap, zb2_some, eq_true e, if_true, r1', cp2, q3, nI_add, w3, s1, l120, eq_true y, s4, eq_true z, s3, s4w, a83]
      · rw [if_neg (fun w => z w.2)]
        simp only [m_Run_advance, r1, bind_some', cp, r0', cv, ap, zb2_some, eq_true e, if_true, r1', cp2, q3, nI_add, w3, s1, l120, eq_true y, s4, eq_false z, if_false, a83]
    · rw [if_neg (fun w => y w.1)]
      simp only [m_Run_advance, r1, bind_some', cp, r0', cv, ap, zb2_some, eq_true e, if_true, r1', cp2, q3, nI_add, w3, s1, l120, eq_false y, if_false, a83]
  · rw [if_neg e]
    simp only [m_Run_advance, r1, bind_some', cp, r0', cv, ap, zb2_some, eq_false e, if_false]
end ADV
