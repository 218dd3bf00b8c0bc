/-! A RUN BEGINS; A RUN GOES ON, ON EACH SIDE BY ITSELF -/
theorem ms_far {m : Nat → Int32} {kd : Nat} {fu d1 d2 : Int32} {g : Nat → Int32} {j : Nat} (q : j ≠ 8 ∧ j ≠ 9 ∧ j ≠ 10 ∧ j ≠ 11) : ms m kd fu d1 d2 g j = m j := by
  unfold ms
  rw [if_neg q.1, if_neg q.2.1, if_neg q.2.2.1, if_neg q.2.2.2]
theorem mR_o {h : zH} {KP rW rS rA rB sA oA m r : Nat → Int32} {k : Nat} (q : k < 670 ∨ (670 < k ∧ k < 675) ∨ 683 ≤ k) : mR h KP rW rS rA rB sA oA m r k = h k := by
  unfold mR
  rw [mh_ne (by omega) (by omega), wRA_ne (by omega)]
theorem mR_675 {h : zH} {KP rW rS rA rB sA oA m r : Nat → Int32} : mR h KP rW rS rA rB sA oA m r 675 = zI32 91 r := mh_675
theorem mR_self {h : zH} {KP rW rS rA rB sA oA m r : Nat → Int32} (a : RA h KP rW rS rA rB sA oA) (b : h 670 = MO m) (c : h 675 = zI32 91 r) : mR h KP rW rS rA rB sA oA m r = h := by
  unfold mR
  rw [wRA_self a, mh_self b c]
def RC (r wy kd : Nat) (g : Nat → Int32) (c : Nat) (sa oa : Int32) (h : zH) : Prop := h (646 + 3 * r) = RunE r (nI wy) (nI c) sa oa ∧ h (647 + 3 * r) = zI32 123 g ∧ h (648 + 3 * r) = ruE kd (fmo kd)
def RMat (a wy n fm : Nat) (KP rW rS rA rB sA oA : Nat → Int32) (g : Nat → Int32) (c : Nat) (sa oa : Int32) : Prop := rW a = nI wy ∧ rS a = nI c ∧ rA a = g 121 ∧ rB a = g 122 ∧ sA a = sa ∧ oA a = oa ∧ ∀ k, k < 91 → KP (91 * a + k) = ph fm n g k
def RSame (a : Nat) (KP rW rS rA rB sA oA KP' rW' rS' rA' rB' sA' oA' : Nat → Int32) : Prop := ∀ b, b ≠ a → rW' b = rW b ∧ rS' b = rS b ∧ rA' b = rA b ∧ rB' b = rB b ∧ sA' b = sA b ∧ oA' b = oA b ∧ ∀ k, k < 91 → KP' (91 * b + k) = KP (91 * b + k)
theorem RSame.rf {a : Nat} {KP rW rS rA rB sA oA : Nat → Int32} : RSame a KP rW rS rA rB sA oA KP rW rS rA rB sA oA := fun b _ => ⟨rfl, rfl, rfl, rfl, rfl, rfl, fun _ _ => rfl⟩
theorem RSame.tr {a : Nat} {KP rW rS rA rB sA oA KP' rW' rS' rA' rB' sA' oA' KP2 rW2 rS2 rA2 rB2 sA2 oA2 : Nat → Int32} (x : RSame a KP rW rS rA rB sA oA KP' rW' rS' rA' rB' sA' oA') (y : RSame a KP' rW' rS' rA' rB' sA' oA' KP2 rW2 rS2 rA2 rB2 sA2 oA2) : RSame a KP rW rS rA rB sA oA KP2 rW2 rS2 rA2 rB2 sA2 oA2 := fun b q => by
  obtain ⟨a1, a2, a3, a4, a5, a6, a7⟩ := x b q
  obtain ⟨b1, b2, b3, b4, b5, b6, b7⟩ := y b q
  exact ⟨b1.trans a1, b2.trans a2, b3.trans a3, b4.trans a4, b5.trans a5, b6.trans a6, fun k hk => (b7 k hk).trans (a7 k hk)⟩
/-- the model's side of a run -/
def RMH (a wy n kd : Nat) (KP rW rS rA rB sA oA m : Nat → Int32) (g : Nat → Int32) (c : Nat) (sa oa : Int32) (h : zH) : Prop := RA h KP rW rS rA rB sA oA ∧ h 670 = MO m ∧ (∃ r, h 675 = zI32 91 r ∧ ∀ k, 91 ≤ k → r k = 0) ∧ RMat a wy n (fmo kd) KP rW rS rA rB sA oA g c sa oa
theorem okT_1 (g : Nat → Int32) (c : Nat) (hc : c ≤ 1000001) {sa : Int32} (h : okT sa) : okT (saN g c sa) := by
  unfold saN
  split
  · exact Or.inr ⟨c, by omega, rfl⟩
  · exact h
theorem okT_2 (g : Nat → Int32) (c : Nat) (hc : c ≤ 1000001) {sa : Int32} (h : okT sa) : okT (oaN g c sa) := by
  by_cases z : ovr g
  · have e : oaN g c sa = if sa = -2 then nI c else sa := @if_pos _ (Classical.propDecidable _) z _ _ _
    rw [e]
    split
    · exact Or.inr ⟨c, by omega, rfl⟩
    · exact h
  · have e : oaN g c sa = -2 := @if_neg _ (Classical.propDecidable _) z _ _ _
    rw [e]
    exact Or.inl rfl
section RUN1
variable {h : zH} {r n wy kd c : Nat} {g : Nat → Int32} {sa oa : Int32} {nw : Nat → Int32 → Nat} {go : Nat → Int32 → Nat → Nat}
theorem c_adv {sort : Nat} {i : Int32} (r4 : r < 4) (C : RC r wy kd g c sa oa h) (S : cSp h) (H : HU n nw go h) (hkd : kd < 9) (hn0 : 0 < n) (hc : c ≤ 1000000) (hs : sort < 1000) (hV : IV (fmo kd) n c 0 g) : ∃ h', (∀ k, k ≠ 20 → k ≠ 646 + 3 * r → k ≠ 647 + 3 * r → h' k = h k) ∧ cSp h' ∧
    (((aStep kd (fmo kd) n nw go sort i g).1 = nI 1 ∧ m_Run_advance (646 + 3 * r) 20 (nI sort) i h = some (nI (c + 1), h') ∧ RC r wy kd (aStep kd (fmo kd) n nw go sort i g).2 (c + 1) (saN (aStep kd (fmo kd) n nw go sort i g).2 (c + 1) sa) (oaN (aStep kd (fmo kd) n nw go sort i g).2 (c + 1) oa) h') ∨ (¬ (aStep kd (fmo kd) n nw go sort i g).1 = nI 1 ∧ m_Run_advance (646 + 3 * r) 20 (nI sort) i h = some ((aStep kd (fmo kd) n nw go sort i g).1, h') ∧ RC r wy kd g c sa oa h')) := by
  obtain ⟨h1, h2, h3⟩ := C
  obtain ⟨sp, h20, hsp⟩ := S
  have n6 := hu_n H
  have adv := s_advance (i := i) (w := 0) r4 h1 h2 h3 h20 hsp hkd rfl H hn0 hc hs hV
  have hp := hi.step (kd := kd) (nw := nw) (go := go) (sort := sort) (i := i) n6 hV
  revert adv hp
  generalize aStep kd (fmo kd) n nw go sort i g = p
  intro adv hp
  by_cases e : p.1 = nI 1
  · rw [if_pos e] at adv
    refine ⟨_, fun k a b d => ?_, ?_, Or.inl ⟨e, adv, ?_, ?_, ?_⟩⟩
    · rw [zup_ne b, zup_ne d, zup_ne a]
    · exact ⟨p.2, by rw [zup_ne (by omega), zup_ne (by omega), zup_eq], hp⟩
    · exact zup_eq _ _ _
    · rw [zup_ne (by omega), zup_eq]
    · rw [zup_ne (by omega), zup_ne (by omega), zup_ne (by omega)]; exact h3
  · rw [if_neg e] at adv
    refine ⟨_, fun k a b d => ?_, ?_, Or.inr ⟨e, adv, ?_, ?_, ?_⟩⟩
    · rw [zup_ne a]
    · exact ⟨p.2, zup_eq _ _ _, hp⟩
    · rw [zup_ne (by omega)]; exact h1
    · rw [zup_ne (by omega)]; exact h2
    · rw [zup_ne (by omega)]; exact h3
theorem m_adv {sort : Nat} {i : Int32} {Kf KP rW rS rA rB sA oA m : Nat → Int32} (r4 : r < 4) (M : RMH r wy n kd KP rW rS rA rB sA oA m g c sa oa h) (h674 : h 674 = zI32 10 Kf) (hw : wy < 10) (hkw : Kf wy = nI kd) (m4 : m 4 = nI n) (H : MU n nw go h) (hgo : ∀ hh, hh < n → ∀ l i, i < nw hh l → go hh l i < 6) (hnw : ∀ hh, hh < n → ∀ l, nw hh l ≤ 270) (o1 : okT sa) (o2 : okT oa) (hkd : kd < 9) (hn : n ≤ 6) (hn0 : 0 < n) (hc : c ≤ 1000000) (hs : sort < 5) (hV : IV (fmo kd) n c 0 g) : ∃ h' KP' rS' rA' rB' sA' oA' m', (∀ k, k ≠ 670 → ¬ (675 ≤ k ∧ k < 683) → h' k = h k) ∧ (∀ j, j ≠ 8 ∧ j ≠ 9 ∧ j ≠ 10 ∧ j ≠ 11 → m' j = m j) ∧ RSame r KP rW rS rA rB sA oA KP' rW rS' rA' rB' sA' oA' ∧
    (((aStep kd (fmo kd) n nw go sort i g).1 = nI 1 ∧ m_Model_stepOf 670 (nI r) (nI sort) i h = some (nI (c + 1), h') ∧ RMH r wy n kd KP' rW rS' rA' rB' sA' oA' m' (aStep kd (fmo kd) n nw go sort i g).2 (c + 1) (saN (aStep kd (fmo kd) n nw go sort i g).2 (c + 1) sa) (oaN (aStep kd (fmo kd) n nw go sort i g).2 (c + 1) oa) h') ∨ (((aStep kd (fmo kd) n nw go sort i g).1 = -3 ∨ (aStep kd (fmo kd) n nw go sort i g).1 = -5) ∧ m_Model_stepOf 670 (nI r) (nI sort) i h = some ((aStep kd (fmo kd) n nw go sort i g).1, h') ∧ RMH r wy n kd KP' rW rS' rA' rB' sA' oA' m' g c sa oa h')) := by
  obtain ⟨A, hm, ⟨rr, h675, hrr⟩, w1, w2, w3, w4, w5, w6, w7⟩ := M
  have st := M_stepOf (m := m) (r := rr) (i := i) (sA := sA) (oA := oA) r4 h674 hw hkw w1 w7 w3 w4 hrr w2 (by rw [w5]; exact o1) (by rw [w6]; exact o2) hkd rfl hn hn0 m4 hc hs H hgo hnw hV
  rw [mR_self A hm h675, w5, w6] at st
  revert st
  generalize aStep kd (fmo kd) n nw go sort i g = p
  intro st
  rcases st with ⟨e, y⟩ | ⟨e, fu, g', y⟩
  · refine ⟨_, kpU KP r (ph (fmo kd) n p.2), upd rS r (nI (c + 1)), upd rA r (p.2 121), upd rB r (p.2 122), upd sA r (saN p.2 (c + 1) sa), upd oA r (oaN p.2 (c + 1) oa), ms m kd (nI 0) 0 0 p.2, fun k a b => mR_o (by omega), fun j q => ms_far q, fun b q => ⟨rfl, upd_ne q, upd_ne q, upd_ne q, upd_ne q, upd_ne q, fun k hk => kpU_ne hk q⟩, Or.inl ⟨e, y, mR_RA, mR_670, ⟨_, mR_675, fun k hk => ph_hi hk⟩, w1, upd_eq _ _ _, upd_eq _ _ _, upd_eq _ _ _, upd_eq _ _ _, upd_eq _ _ _, fun k hk => kpU_in hk⟩⟩
  · refine ⟨_, KP, rS, rA, rB, sA, oA, ms m kd fu 0 0 g', fun k a b => mR_o (by omega), fun j q => ms_far q, RSame.rf, Or.inr ⟨e, y, mR_RA, mR_670, ⟨_, mR_675, fun k hk => ph_hi hk⟩, w1, w2, w3, w4, w5, w6, w7⟩⟩
end RUN1
/-- what a run's number says on both sides -/
theorem cRuns_at {h : zH} {n w rb b : Nat} {Kf : Nat → Int32} (c : cRuns n w rb Kf b h) {tl ww rbb : Nat} (h0 : h 0 = HO tl ww rbb) : zrR h 0 6 5 = some 19 ∧ ∀ s, s < 4 → zaR 3 h 19 (nI s) = some (646 + 3 * s) := by
  obtain ⟨-, -, ⟨g, a, b⟩, -⟩ := c
  exact ⟨(HO_rd h0).2.2.2.2.2.2.1, fun s q => zaR_of a q (by omega) (b s q)⟩
section CALLS3
variable {h : zH} {n tl w rb ran b : Nat} {X : Nat → Nat → Nat} {Le : Nat → Nat} {Kf : Nat → Int32}
theorem f_run (B : BAS n X Le tl w rb ran Kf b h) (x : Int32) : ∃ r h1 h2, m_Home_run 0 x h = some (r, h1) ∧ m_Model_run 670 x h1 = some (r, h2) ∧ (∃ rb', BAS n X Le tl w rb' ran Kf b h2) ∧ ∀ k, 21 ≤ k → k < 643 → h2 k = h k := by
  obtain ⟨⟨h0, m, hm, m1, m4, m6, m19, m27⟩, cT, cH, ⟨w10, k18, k674, kk⟩, cR, cS, cC, cA, cX⟩ := id B
  obtain ⟨n6, P, ⟨hB, -⟩, -, -⟩ := id cH
  obtain ⟨r4, rn, -⟩ := id cR
  have n1 := nI1_0
  have n0 := nI0_0
  obtain ⟨cl, e1, -⟩ := HB_rd hB
  have cvh := fun {α : Type} (o : Option α) => HO_cv h0 o
  have cvm := fun {α : Type} (o : Option α) => MO_cv h m hm o
  have iw := isWay_H h0 w10 x
  have iw' := isWay_M hm m6 w10 x
  obtain ⟨-, -, -, q2, q3, -, q5, q6, -⟩ := HO_rd h0
  have p4 : zrI h 670 7 4 = some (nI n) := by rw [MO_rd h m (by unfold mosc; omega) hm, m4]
  have p19 : zrI h 670 7 19 = some (nI rb) := by rw [MO_rd h m (by unfold mosc; omega) hm, m19]
  rcases ix_cases x w (by omega) with ⟨z, -⟩ | ⟨wy, hwy, rfl, z⟩
  · rw [z, if_pos rfl] at iw iw'
    exact ⟨-1, h, h, by simp only [m_Home_run, cvh, iw, bind_some', n0, if_true], by simp only [m_Model_run, cvm, iw', bind_some', n0, if_true], ⟨rb, B⟩, fun k _ _ => rfl⟩
  rw [z] at iw iw'
  have e0 : ((some wy : Option Nat) = none) = False := by simp
  simp only [e0, if_false] at iw iw'
  have sz : m_Huts_size 2 h = some (nI n) := by simp only [m_Huts_size, e1, bind_some']
  by_cases c0 : n = 0
  · have d : (nI n = 0) = True := by rw [nI_eq0 (by omega)]; exact eq_true c0
    exact ⟨-5, h, h, by simp only [m_Home_run, cvh, iw, bind_some', n1, if_false, q2, zcv_of cl, sz, d, if_true], by simp only [m_Model_run, cvm, iw', bind_some', n1, if_false, p4, d, if_true], ⟨rb, B⟩, fun k _ _ => rfl⟩
  have d : (nI n = 0) = False := by rw [nI_eq0 (by omega)]; exact eq_false c0
  by_cases c4 : rb = 4
  · have d1 : (nI rb < nI 4) = False := by rw [c4]; simp
    have d2 : (nI rb = nI 4) = True := by rw [c4]; simp
    exact ⟨-3, h, h, by simp only [m_Home_run, cvh, iw, bind_some', n1, if_false, q2, zcv_of cl, sz, d, q6, d1], by simp only [m_Model_run, cvm, iw', bind_some', n1, if_false, p4, d, p19, d2, if_true], ⟨rb, B⟩, fun k _ _ => rfl⟩
  have rb4 : rb < 4 := by omega
  have d1 : (nI rb < nI 4) = True := eq_true ((nI_ltI (by omega) (by omega)).mpr rb4)
  have d2 : (nI rb = nI 4) = False := eq_false (fun q => c4 ((nI_eq (by omega) (by omega)).mp q))
  obtain ⟨kd, hkd, ekd⟩ := kk wy hwy
  obtain ⟨-, r19⟩ := cRuns_at cR h0
  obtain ⟨-, -, -, KP, rW, rS, rA, rB, sA, oA, hRA, hA, hBn⟩ := id cR
  obtain ⟨rS0, a1, a2, a3, a4, k0, f0, g, u1, u2, ug, u3⟩ := hBn rb (Nat.le_refl _) rb4
  have l18 : zaI h 18 (nI wy) = some (nI kd) := by rw [zaI, zA32_of k18 (by omega) (by omega), ekd]
  -- the class
  have hfm := fmo_lt kd
  obtain ⟨rc, s0, s1, -⟩ := RunE_rd u1
  have bg := s_begin (h := h) (a := 647 + 3 * rb) (r := 648 + 3 * rb) (kd := kd) (k0 := k0) (f0 := f0) (g := g) u3 (by omega) hkd ug
  rw [zup_self u2] at bg
  have cv3 : ∀ {α : Type} (o : Option α), zcv h (648 + 3 * rb) 3 o = o := fun o => zcv_of (zcls_of u3)
  have v1 : (zup (zup h (648 + 3 * rb) (ruE kd (fmo kd))) (647 + 3 * rb) (zI32 123 (g0 (fmo kd)))) (646 + 3 * rb) = RunE rb a1 a2 a3 a4 := by rw [zup_ne (by omega), zup_ne (by omega)]; exact u1
  have W2 := (RunE_rd v1).2.2.2.2.2.2.2.1 (nI wy)
  have W3 : ∀ (hq : zH) (y1 y2 y3 y4 x : Int32), zwI (zup hq (646 + 3 * rb) (RunE rb y1 y2 y3 y4)) (646 + 3 * rb) 4 3 x = some (zup hq (646 + 3 * rb) (RunE rb y1 x y3 y4)) := fun hq y1 y2 y3 y4 x => by rw [(RunE_rd (zup_eq _ _ _)).2.2.2.2.2.2.2.2.1 x, zup_zup]
  have W4 : ∀ (hq : zH) (y1 y2 y3 y4 x : Int32), zwI (zup hq (646 + 3 * rb) (RunE rb y1 y2 y3 y4)) (646 + 3 * rb) 4 4 x = some (zup hq (646 + 3 * rb) (RunE rb y1 y2 x y4)) := fun hq y1 y2 y3 y4 x => by rw [(RunE_rd (zup_eq _ _ _)).2.2.2.2.2.2.2.2.2.1 x, zup_zup]
  have W5 : ∀ (hq : zH) (y1 y2 y3 y4 x : Int32), zwI (zup hq (646 + 3 * rb) (RunE rb y1 y2 y3 y4)) (646 + 3 * rb) 4 5 x = some (zup hq (646 + 3 * rb) (RunE rb y1 y2 y3 x)) := fun hq y1 y2 y3 y4 x => by rw [(RunE_rd (zup_eq _ _ _)).2.2.2.2.2.2.2.2.2.2 x, zup_zup]
  have rbg : m_Run_begin (646 + 3 * rb) (nI wy) (nI kd) h = some (zup (zup (zup h (648 + 3 * rb) (ruE kd (fmo kd))) (647 + 3 * rb) (zI32 123 (g0 (fmo kd)))) (646 + 3 * rb) (RunE rb (nI wy) (nI 0) (-2) (-2))) := by
    simp only [m_Run_begin, s0, s1, bind_some', cv3, bg, W2, W3, W4, W5]
  have hq : ∀ k, k ≠ 646 + 3 * rb → k ≠ 647 + 3 * rb → k ≠ 648 + 3 * rb → (zup (zup (zup h (648 + 3 * rb) (ruE kd (fmo kd))) (647 + 3 * rb) (zI32 123 (g0 (fmo kd)))) (646 + 3 * rb) (RunE rb (nI wy) (nI 0) (-2) (-2))) k = h k := fun k a b c => by rw [zup_ne a, zup_ne b, zup_ne c]
  have hq1 : (zup (zup (zup h (648 + 3 * rb) (ruE kd (fmo kd))) (647 + 3 * rb) (zI32 123 (g0 (fmo kd)))) (646 + 3 * rb) (RunE rb (nI wy) (nI 0) (-2) (-2))) (646 + 3 * rb) = RunE rb (nI wy) (nI 0) (-2) (-2) := zup_eq _ _ _
  have hq2 : (zup (zup (zup h (648 + 3 * rb) (ruE kd (fmo kd))) (647 + 3 * rb) (zI32 123 (g0 (fmo kd)))) (646 + 3 * rb) (RunE rb (nI wy) (nI 0) (-2) (-2))) (647 + 3 * rb) = zI32 123 (g0 (fmo kd)) := by rw [zup_ne (by omega), zup_eq]
  have hq3 : (zup (zup (zup h (648 + 3 * rb) (ruE kd (fmo kd))) (647 + 3 * rb) (zI32 123 (g0 (fmo kd)))) (646 + 3 * rb) (RunE rb (nI wy) (nI 0) (-2) (-2))) (648 + 3 * rb) = ruE kd (fmo kd) := by rw [zup_ne (by omega), zup_ne (by omega), zup_eq]
  generalize zup (zup (zup h (648 + 3 * rb) (ruE kd (fmo kd))) (647 + 3 * rb) (zI32 123 (g0 (fmo kd)))) (646 + 3 * rb) (RunE rb (nI wy) (nI 0) (-2) (-2)) = hb at rbg hq hq1 hq2 hq3
  have b0 : hb 0 = HO tl w rb := by rw [hq 0 (by omega) (by omega) (by omega)]; exact h0
  have t6 : zrI hb 0 6 6 = some (nI rb) := (HO_rd b0).2.2.2.2.2.2.2.1
  have t6w : ∀ x, zwI hb 0 6 6 (nI x) = some (zup hb 0 (HO tl w x)) := (HO_wr b0).2.2
  have t6' : ∀ x, zrI (zup hb 0 (HO tl w x)) 0 6 6 = some (nI x) := fun x => (HO_rd (zup_eq _ _ _)).2.2.2.2.2.2.2.1
  have cvr : ∀ {α : Type} (o : Option α), zcv h (646 + 3 * rb) 4 o = o := fun o => zcv_of rc
  have eC : m_Home_run 0 (nI wy) h = some (nI rb, zup hb 0 (HO tl w (rb + 1))) := by
    simp (disch := omega) only [m_Home_run, cvh, iw, bind_some', n1, if_false, q2, zcv_of cl, sz, d, q6, d1, if_true, q5, r19 rb rb4, q3, l18, cvr, rbg, t6, nI_add, t6w, t6', nI_subn]
    rfl
  -- the model
  have iq : ∀ k, k ≠ 0 → k ≠ 646 + 3 * rb → k ≠ 647 + 3 * rb → k ≠ 648 + 3 * rb → (zup hb 0 (HO tl w (rb + 1))) k = h k := fun k a b c d => by rw [zup_ne a, hq k b c d]
  have i0 : (zup hb 0 (HO tl w (rb + 1))) 0 = HO tl w (rb + 1) := zup_eq _ _ _
  have i1 : (zup hb 0 (HO tl w (rb + 1))) (646 + 3 * rb) = RunE rb (nI wy) (nI 0) (-2) (-2) := by rw [zup_ne (by omega)]; exact hq1
  have i2 : (zup hb 0 (HO tl w (rb + 1))) (647 + 3 * rb) = zI32 123 (g0 (fmo kd)) := by rw [zup_ne (by omega)]; exact hq2
  have i3 : (zup hb 0 (HO tl w (rb + 1))) (648 + 3 * rb) = ruE kd (fmo kd) := by rw [zup_ne (by omega)]; exact hq3
  generalize zup hb 0 (HO tl w (rb + 1)) = hc at eC iq i0 i1 i2 i3
  have im : hc 670 = MO m := by rw [iq 670 (by omega) (by omega) (by omega) (by omega)]; exact hm
  have iRA : RA hc KP rW rS rA rB sA oA := hRA.fr (fun k y => iq k (by omega) (by omega) (by omega) (by omega))
  obtain ⟨⟨rr, h675, hrr⟩, scr⟩ := id cC
  have i675 : hc 675 = zI32 91 rr := by rw [iq 675 (by omega) (by omega) (by omega) (by omega)]; exact h675
  have i674 : hc 674 = zI32 10 Kf := by rw [iq 674 (by omega) (by omega) (by omega) (by omega)]; exact k674
  have bM := M_begin (h := hc) (m := m) (n := n) (r := rr) (kd := kd) hkd rfl n6 m4 hrr
  have es : mh hc m rr = hc := mh_self im i675
  have eg : mg hc m (fmo kd) n kd (m 11) 0 0 (g0 (fmo kd)) = mR hc KP rW rS rA rB sA oA (ms m kd (m 11) 0 0 (g0 (fmo kd))) (ph (fmo kd) n (g0 (fmo kd))) := by
    unfold mR mg
    rw [wRA_self iRA]
  rw [es, eg] at bM
  have x6 : zrI hc 670 7 6 = some (nI w) := by rw [MO_rd hc m (by unfold mosc; omega) im, m6]
  have x4 : zrI hc 670 7 4 = some (nI n) := by rw [MO_rd hc m (by unfold mosc; omega) im, m4]
  have x19 : zrI hc 670 7 19 = some (nI rb) := by rw [MO_rd hc m (by unfold mosc; omega) im, m19]
  have x5 : zrR hc 670 7 5 = some 674 := (MO_ref _ m im).2.2.2.1
  have xl : zaI hc 674 (nI wy) = some (nI kd) := by rw [zaI, zA32_of i674 (by omega) (by omega), ekd]
  have iwM := isWay_M im m6 w10 (nI wy)
  rw [z] at iwM
  simp only [e0, if_false] at iwM
  have y19 : ms m kd (m 11) 0 0 (g0 (fmo kd)) 19 = nI rb := by rw [ms_far (by omega)]; exact m19
  have r19' : ∀ KP rW rS rA rB sA oA r, zrI (mR hc KP rW rS rA rB sA oA (ms m kd (m 11) 0 0 (g0 (fmo kd))) r) 670 7 19 = some (nI rb) := fun KP rW rS rA rB sA oA r => by rw [mR_rd (by unfold mosc; omega), y19]
  have w19' : ∀ KP rW rS rA rB sA oA r x, zwI (mR hc KP rW rS rA rB sA oA (ms m kd (m 11) 0 0 (g0 (fmo kd))) r) 670 7 19 x = some (mR hc KP rW rS rA rB sA oA (upd (ms m kd (m 11) 0 0 (g0 (fmo kd))) 19 x) r) := fun KP rW rS rA rB sA oA r x => mR_w x (by unfold mosc; omega)
  have r19'' : ∀ KP rW rS rA rB sA oA r x, zrI (mR hc KP rW rS rA rB sA oA (upd (ms m kd (m 11) 0 0 (g0 (fmo kd))) 19 x) r) 670 7 19 = some x := fun KP rW rS rA rB sA oA r x => by rw [mR_rd (by unfold mosc; omega), upd_eq]
  have e8 : ms m kd (m 11) 0 0 (g0 (fmo kd)) 8 = g0 (fmo kd) 121 := by
    unfold ms
    rw [if_pos rfl, Int32.add_zero]
  have e9 : ms m kd (m 11) 0 0 (g0 (fmo kd)) 9 = g0 (fmo kd) 122 := by
    unfold ms
    rw [if_neg (by omega), if_pos rfl, Int32.add_zero]
  have eM : m_Model_run 670 (nI wy) hc = some (nI rb, mR hc (kpU KP rb (ph (fmo kd) n (g0 (fmo kd)))) (upd rW rb (nI wy)) rS (upd rA rb (g0 (fmo kd) 121)) (upd rB rb (g0 (fmo kd) 122)) (upd sA rb (-2)) (upd oA rb (-2)) (upd (ms m kd (m 11) 0 0 (g0 (fmo kd))) 19 (nI (rb + 1))) (ph (fmo kd) n (g0 (fmo kd)))) := by
    simp (disch := omega) only [m_Model_run, MO_cv hc m im, iwM, bind_some', n1, if_false, x4, d, x19, d2, x5, xl, bM, mR_rf, r19', mR_s2, mR_s6, mR_s7, mR_cv, M_keepRun, e8, e9, nI_add, w19', r19'', nI_subn]
    rfl
  refine ⟨nI rb, hc, _, eC, eM, ⟨rb + 1, ?_⟩, fun k a b => ?_⟩
  · have Q : ∀ (KP rW rS rA rB sA oA m r : Nat → Int32) (k : Nat), k ≠ 0 → ¬ (646 ≤ k ∧ k < 658) → k ≠ 670 → ¬ (675 ≤ k ∧ k < 683) → mR hc KP rW rS rA rB sA oA m r k = h k := fun KP rW rS rA rB sA oA m r k a b c d => by rw [mR_o (by omega), iq k a (by omega) (by omega) (by omega)]
    refine ⟨⟨by rw [mR_o (by omega)]; exact i0, _, mR_670, ?_, ?_, ?_, upd_eq _ _ _, ?_⟩, cT.fr fun k y => Q _ _ _ _ _ _ _ _ _ k (by omega) (by omega) (by omega) (by omega), cH.fr fun k y => Q _ _ _ _ _ _ _ _ _ k (by omega) (by omega) (by omega) (by omega), cKinds.fr ⟨w10, k18, k674, kk⟩ fun k y => Q _ _ _ _ _ _ _ _ _ k (by omega) (by omega) (by omega) (by omega), ⟨by omega, Or.inr (by omega), ?_, _, _, _, _, _, _, _, mR_RA, fun r hr => ?_, fun r hr hr4 => ?_⟩, cS.fr fun k y => Q _ _ _ _ _ _ _ _ _ k (by omega) (by omega) (by omega) (by omega), ⟨⟨_, mR_675, fun k hk => ph_hi hk⟩, ?_⟩, cA.fr fun k y => Q _ _ _ _ _ _ _ _ _ k (by omega) (by omega) (by omega) (by omega), cX.fr fun k y => Q _ _ _ _ _ _ _ _ _ k (by omega) (by omega) (by omega) (by omega)⟩
    · rw [upd_ne (by omega), ms_far (by omega)]; exact m1
    · rw [upd_ne (by omega), ms_far (by omega)]; exact m4
    · rw [upd_ne (by omega), ms_far (by omega)]; exact m6
    · rw [upd_ne (by omega), ms_far (by omega)]; exact m27
    · obtain ⟨gg, x, y⟩ := cR.2.2.1
      exact ⟨gg, by rw [Q _ _ _ _ _ _ _ _ _ 19 (by omega) (by omega) (by omega) (by omega)]; exact x, y⟩
    · by_cases e : r = rb
      · subst e
        refine ⟨wy, kd, 0, g0 (fmo kd), hwy, hkd, ekd, Nat.zero_le _, by rw [mR_o (by omega), upd_eq, upd_eq]; exact i1, by rw [mR_o (by omega)]; exact i2, by rw [mR_o (by omega)]; exact i3, IV_g0 (by omega), upd_eq _ _ _, rS0, upd_eq _ _ _, upd_eq _ _ _, by rw [upd_eq]; exact Or.inl rfl, by rw [upd_eq]; exact Or.inl rfl, fun k hk => kpU_in hk⟩
      · obtain ⟨wy', kd', c', g', x1, x2, x3, x4, x5, x6, x7, x8, x9, x10, x11, x12, x13, x14, x15⟩ := hA r (by omega)
        refine ⟨wy', kd', c', g', x1, x2, x3, x4, by rw [mR_o (by omega), iq _ (by omega) (by omega) (by omega) (by omega), upd_ne e, upd_ne e]; exact x5, by rw [mR_o (by omega), iq _ (by omega) (by omega) (by omega) (by omega)]; exact x6, by rw [mR_o (by omega), iq _ (by omega) (by omega) (by omega) (by omega)]; exact x7, x8, by rw [upd_ne e]; exact x9, x10, by rw [upd_ne e]; exact x11, by rw [upd_ne e]; exact x12, by rw [upd_ne e]; exact x13, by rw [upd_ne e]; exact x14, fun k hk => by rw [kpU_ne hk e]; exact x15 k hk⟩
    · exact (hBn r (by omega) hr4).fr fun k y => by rw [mR_o (by omega), iq k (by omega) (by omega) (by omega) (by omega)]
    · rw [Q _ _ _ _ _ _ _ _ _ 683 (by omega) (by omega) (by omega) (by omega), Q _ _ _ _ _ _ _ _ _ 684 (by omega) (by omega) (by omega) (by omega), Q _ _ _ _ _ _ _ _ _ 685 (by omega) (by omega) (by omega) (by omega), Q _ _ _ _ _ _ _ _ _ 686 (by omega) (by omega) (by omega) (by omega), Q _ _ _ _ _ _ _ _ _ 687 (by omega) (by omega) (by omega) (by omega)]
      exact scr
  · rw [mR_o (by omega), iq k (by omega) (by omega) (by omega) (by omega)]
end CALLS3
