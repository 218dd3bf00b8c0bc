/-! THE WHOLE WORLD OF THE TWO SYSTEMS BETWEEN TWO CALLS, in pieces, each with the roles that it speaks of -/
def HO (tl w rb : Nat) : zE := .inl (6, [.ref 1, .int (nI tl), .ref 2, .ref 18, .int (nI w), .ref 19, .int (nI rb), .ref 20, .ref 21, .ref 332, .ref 643, .ref 645])
def cObj (n tl w rb ran : Nat) (h : zH) : Prop := h 0 = HO tl w rb ∧ ∃ m, h 670 = MO m ∧ m 1 = nI tl ∧ m 4 = nI n ∧ m 6 = nI w ∧ m 19 = nI rb ∧ m 27 = nI ran
def cTape (tl : Nat) (h : zH) : Prop := tl ≤ 60 ∧ ∃ Tt, h 1 = zI32 60 Tt ∧ h 671 = zI32 60 Tt ∧ ∀ k, k < 60 → ∃ t, t < 256 ∧ Tt k = nI t
def cHuts (n : Nat) (X : Nat → Nat → Nat) (Le : Nat → Nat) (h : zH) : Prop := n ≤ 6 ∧ PG n X Le ∧ HT n X Le h ∧ (∃ Tx Tm, h 672 = zI32 360 Tx ∧ h 673 = zI32 6 Tm ∧ ∀ hh, hh < n → Tm hh = nI (Le hh) ∧ ∀ k, k < Le hh → Tx (60 * hh + k) = nI (X hh k)) ∧ ∀ k, n ≤ k → k < 6 → ∃ S G, h (11 + k) = zI32 62 S ∧ h (4 + k) = zI32 270 G ∧ S 0 = nI 0
def cKinds (w : Nat) (Kf : Nat → Int32) (h : zH) : Prop := w ≤ 10 ∧ h 18 = zI32 10 Kf ∧ h 674 = zI32 10 Kf ∧ ∀ i, i < w → ∃ kd, kd < 9 ∧ Kf i = nI kd
def okT (x : Int32) : Prop := x = -2 ∨ ∃ k, k < 2 ^ 31 ∧ x = nI k
def cRunA (n w : Nat) (Kf : Nat → Int32) (b : Nat) (KP rW rS rA rB sA oA : Nat → Int32) (r : Nat) (h : zH) : Prop := ∃ (wy kd c : Nat) (g : Nat → Int32), wy < w ∧ kd < 9 ∧ Kf wy = nI kd ∧ c ≤ b ∧ h (646 + 3 * r) = RunE r (nI wy) (nI c) (sA r) (oA r) ∧ h (647 + 3 * r) = zI32 123 g ∧ h (648 + 3 * r) = ruE kd (fmo kd) ∧ IV (fmo kd) n c 0 g ∧ rW r = nI wy ∧ rS r = nI c ∧ rA r = g 121 ∧ rB r = g 122 ∧ okT (sA r) ∧ okT (oA r) ∧ ∀ k, k < 91 → KP (91 * r + k) = ph (fmo kd) n g k
def cRunB (rS : Nat → Int32) (r : Nat) (h : zH) : Prop := rS r = nI 0 ∧ ∃ (a1 a2 a3 a4 k0 f0 : Int32) (g : Nat → Int32), h (646 + 3 * r) = RunE r a1 a2 a3 a4 ∧ h (647 + 3 * r) = zI32 123 g ∧ hi g ∧ h (648 + 3 * r) = .inl (3, [.ref 2, .int k0, .int f0])
def cRuns (n w rb : Nat) (Kf : Nat → Int32) (b : Nat) (h : zH) : Prop := rb ≤ 4 ∧ (rb = 0 ∨ 0 < n) ∧ (∃ g, h 19 = zRf 3 4 g ∧ ∀ r, r < 4 → g r = some (646 + 3 * r)) ∧ ∃ KP rW rS rA rB sA oA, RA h KP rW rS rA rB sA oA ∧ (∀ r, r < rb → cRunA n w Kf b KP rW rS rA rB sA oA r h) ∧ ∀ r, rb ≤ r → r < 4 → cRunB rS r h
def cSp (h : zH) : Prop := ∃ sp, h 20 = zI32 123 sp ∧ hi sp
def cScr (h : zH) : Prop := (∃ r, h 675 = zI32 91 r ∧ ∀ k, 91 ≤ k → r k = 0) ∧ (∃ F, h 683 = zI32 13741 F) ∧ (∃ A, h 684 = zI32 151 A) ∧ (∃ B, h 685 = zI32 151 B) ∧ (∃ C, h 686 = zI1 151 C) ∧ ∃ L, h 687 = zI1 22801 L
def cActs (ran : Nat) (h : zH) : Prop := ran ≤ 1000 ∧ (∃ a b, h 643 = .inl (0, [.ref 644, .int (nI ran), .int a, .int b])) ∧ ∃ tr, h 644 = zI32 24 tr ∧ h 688 = zI32 24 tr
def shS (w : Nat) (len so wy sf mf : Int32) : Prop := (len = nI 0 ∧ so = -1 ∧ wy = -1 ∧ sf = -1 ∧ mf = nI 0) ∨ (∃ y, y < w ∧ len = nI 0 ∧ so = -1 ∧ wy = nI y ∧ sf = nI y ∧ mf = nI 0) ∨ ∃ s l, s < 5 ∧ l ≤ 60 ∧ len = nI l ∧ so = nI s ∧ wy = -1 ∧ sf = nI (10 + s) ∧ mf = nI l
def SHE (s : Nat) (len so wy : Int32) : zE := .inl (5, [.ref (659 + 2 * s), .int len, .int so, .int wy])
def cSh1 (w : Nat) (sf mf : Nat → Int32) (it : Nat → Int64) (s : Nat) (h : zH) : Prop := ∃ (len so wy : Int32) (el : Nat → Int64), shS w len so wy (sf s) (mf s) ∧ h (658 + 2 * s) = SHE s len so wy ∧ h (659 + 2 * s) = zI64 60 el ∧ ∀ k, k < 60 → el k = it (60 * s + k)
def cSh (w : Nat) (h : zH) : Prop := (∃ g, h 645 = zRf 4 6 g ∧ ∀ s, s < 6 → g s = some (658 + 2 * s)) ∧ ∃ sf mf it, h 689 = zI32 6 sf ∧ h 690 = zI32 6 mf ∧ h 691 = zI64 360 it ∧ (∃ ca, h 692 = zI64 60 ca) ∧ ∀ s, s < 6 → cSh1 w sf mf it s h
-- which roles each piece looks at
theorem cObj.fr {n tl w rb ran : Nat} {h h' : zH} (c : cObj n tl w rb ran h) (q : ∀ k, k = 0 ∨ k = 670 → h' k = h k) : cObj n tl w rb ran h' := by
  obtain ⟨a, m, b, d⟩ := c
  exact ⟨by rw [q 0 (by omega)]; exact a, m, by rw [q 670 (by omega)]; exact b, d⟩
theorem cTape.fr {tl : Nat} {h h' : zH} (c : cTape tl h) (q : ∀ k, k = 1 ∨ k = 671 → h' k = h k) : cTape tl h' := by
  obtain ⟨a, T, b, d, e⟩ := c
  exact ⟨a, T, by rw [q 1 (by omega)]; exact b, by rw [q 671 (by omega)]; exact d, e⟩
theorem cHuts.fr {n : Nat} {X : Nat → Nat → Nat} {Le : Nat → Nat} {h h' : zH} (c : cHuts n X Le h) (q : ∀ k, (2 ≤ k ∧ k < 18) ∨ k = 672 ∨ k = 673 → h' k = h k) : cHuts n X Le h' := by
  obtain ⟨n6, P, ⟨⟨a2, ⟨g, a3, b3⟩, g', a10, b10⟩, Ls, a17, hH⟩, ⟨Tx, Tm, e2, e3, hM⟩, o⟩ := c
  refine ⟨n6, P, ⟨⟨by rw [q 2 (by omega)]; exact a2, ⟨g, by rw [q 3 (by omega)]; exact a3, b3⟩, g', by rw [q 10 (by omega)]; exact a10, b10⟩, Ls, by rw [q 17 (by omega)]; exact a17, fun hh l => ?_⟩, ⟨Tx, Tm, by rw [q 672 (by omega)]; exact e2, by rw [q 673 (by omega)]; exact e3, hM⟩, fun k a b => ?_⟩
  · obtain ⟨x, S, G, y, z, t⟩ := hH hh l
    exact ⟨x, S, G, by rw [q (11 + hh) (by omega)]; exact y, by rw [q (4 + hh) (by omega)]; exact z, t⟩
  · obtain ⟨S, G, y, z, t⟩ := o k a b
    exact ⟨S, G, by rw [q (11 + k) (by omega)]; exact y, by rw [q (4 + k) (by omega)]; exact z, t⟩
theorem cKinds.fr {w : Nat} {Kf : Nat → Int32} {h h' : zH} (c : cKinds w Kf h) (q : ∀ k, k = 18 ∨ k = 674 → h' k = h k) : cKinds w Kf h' := by
  obtain ⟨a, b, d, e⟩ := c
  exact ⟨a, by rw [q 18 (by omega)]; exact b, by rw [q 674 (by omega)]; exact d, e⟩
theorem RA.fr {KP rW rS rA rB sA oA : Nat → Int32} {h h' : zH} (c : RA h KP rW rS rA rB sA oA) (q : ∀ k, 676 ≤ k ∧ k < 683 → h' k = h k) : RA h' KP rW rS rA rB sA oA := by
  obtain ⟨a1, a2, a3, a4, a5, a6, a7⟩ := c
  exact ⟨by rw [q 676 (by omega)]; exact a1, by rw [q 677 (by omega)]; exact a2, by rw [q 678 (by omega)]; exact a3, by rw [q 679 (by omega)]; exact a4, by rw [q 680 (by omega)]; exact a5, by rw [q 681 (by omega)]; exact a6, by rw [q 682 (by omega)]; exact a7⟩
theorem cRunA.fr {n w b r : Nat} {Kf KP rW rS rA rB sA oA : Nat → Int32} {h h' : zH} (c : cRunA n w Kf b KP rW rS rA rB sA oA r h) (q : ∀ k, 646 + 3 * r ≤ k ∧ k < 649 + 3 * r → h' k = h k) : cRunA n w Kf b KP rW rS rA rB sA oA r h' := by
  obtain ⟨wy, kd, c, g, e1, e2, e3, e4, e5, e6, e7, e8⟩ := c
  exact ⟨wy, kd, c, g, e1, e2, e3, e4, by rw [q (646 + 3 * r) (by omega)]; exact e5, by rw [q (647 + 3 * r) (by omega)]; exact e6, by rw [q (648 + 3 * r) (by omega)]; exact e7, e8⟩
theorem cRunB.fr {r : Nat} {rS : Nat → Int32} {h h' : zH} (c : cRunB rS r h) (q : ∀ k, 646 + 3 * r ≤ k ∧ k < 649 + 3 * r → h' k = h k) : cRunB rS r h' := by
  obtain ⟨e, a1, a2, a3, a4, k0, f0, g, e5, e6, hg, e7⟩ := c
  exact ⟨e, a1, a2, a3, a4, k0, f0, g, by rw [q (646 + 3 * r) (by omega)]; exact e5, by rw [q (647 + 3 * r) (by omega)]; exact e6, hg, by rw [q (648 + 3 * r) (by omega)]; exact e7⟩
theorem cRuns.fr {n w rb b : Nat} {Kf : Nat → Int32} {h h' : zH} (c : cRuns n w rb Kf b h) (q : ∀ k, k = 19 ∨ (646 ≤ k ∧ k < 658) ∨ (676 ≤ k ∧ k < 683) → h' k = h k) : cRuns n w rb Kf b h' := by
  obtain ⟨r4, n0, ⟨g, a, a'⟩, KP, rW, rS, rA, rB, sA, oA, d, e, f⟩ := c
  exact ⟨r4, n0, ⟨g, by rw [q 19 (by omega)]; exact a, a'⟩, KP, rW, rS, rA, rB, sA, oA, d.fr (fun k z => q k (by omega)), fun r l => (e r l).fr (fun k z => q k (by omega)), fun r l l' => (f r l l').fr (fun k z => q k (by omega))⟩
theorem cSp.fr {h h' : zH} (c : cSp h) (q : ∀ k, k = 20 → h' k = h k) : cSp h' := by
  obtain ⟨s, a, b⟩ := c
  exact ⟨s, by rw [q 20 rfl]; exact a, b⟩
theorem cScr.fr {h h' : zH} (c : cScr h) (q : ∀ k, k = 675 ∨ (683 ≤ k ∧ k < 688) → h' k = h k) : cScr h' := by
  unfold cScr at c ⊢
  rw [q 675 (by omega), q 683 (by omega), q 684 (by omega), q 685 (by omega), q 686 (by omega), q 687 (by omega)]
  exact c
theorem cActs.fr {ran : Nat} {h h' : zH} (c : cActs ran h) (q : ∀ k, k = 643 ∨ k = 644 ∨ k = 688 → h' k = h k) : cActs ran h' := by
  unfold cActs at c ⊢
  rw [q 643 (by omega), q 644 (by omega), q 688 (by omega)]
  exact c
theorem cSh1.fr {w s : Nat} {sf mf : Nat → Int32} {it : Nat → Int64} {h h' : zH} (c : cSh1 w sf mf it s h) (q : ∀ k, k = 658 + 2 * s ∨ k = 659 + 2 * s → h' k = h k) : cSh1 w sf mf it s h' := by
  obtain ⟨len, so, wy, el, a, b, d, e⟩ := c
  exact ⟨len, so, wy, el, a, by rw [q (658 + 2 * s) (by omega)]; exact b, by rw [q (659 + 2 * s) (by omega)]; exact d, e⟩
theorem cSh.fr {w : Nat} {h h' : zH} (c : cSh w h) (q : ∀ k, k = 645 ∨ (658 ≤ k ∧ k < 670) ∨ (689 ≤ k ∧ k < 693) → h' k = h k) : cSh w h' := by
  obtain ⟨⟨g, a, a'⟩, sf, mf, it, b, d, e, ⟨ca, f⟩, z⟩ := c
  exact ⟨⟨g, by rw [q 645 (by omega)]; exact a, a'⟩, sf, mf, it, by rw [q 689 (by omega)]; exact b, by rw [q 690 (by omega)]; exact d, by rw [q 691 (by omega)]; exact e, ⟨ca, by rw [q 692 (by omega)]; exact f⟩, fun s l => (z s l).fr (fun k y => q k (by omega))⟩
-- what grows
theorem shS.mono {w w' : Nat} {a b c d e : Int32} (q : w ≤ w') (s : shS w a b c d e) : shS w' a b c d e := by
  rcases s with s | ⟨y, l, s⟩ | s
  · exact Or.inl s
  · exact Or.inr (Or.inl ⟨y, by omega, s⟩)
  · exact Or.inr (Or.inr s)
theorem cSh.mono {w w' : Nat} {h : zH} (q : w ≤ w') (c : cSh w h) : cSh w' h := by
  obtain ⟨a, sf, mf, it, b, d, e, f, z⟩ := c
  refine ⟨a, sf, mf, it, b, d, e, f, fun s l => ?_⟩
  obtain ⟨len, so, wy, el, x, y⟩ := z s l
  exact ⟨len, so, wy, el, x.mono q, y⟩
theorem cRuns.mono {n w w' rb b b' : Nat} {Kf Kf' : Nat → Int32} {h : zH} (q : w ≤ w') (q2 : b ≤ b') (q3 : ∀ i, i < w → Kf' i = Kf i) (c : cRuns n w rb Kf b h) : cRuns n w' rb Kf' b' h := by
  obtain ⟨r4, n0, a, KP, rW, rS, rA, rB, sA, oA, d, e, f⟩ := c
  refine ⟨r4, n0, a, KP, rW, rS, rA, rB, sA, oA, d, fun r l => ?_, f⟩
  obtain ⟨wy, kd, c, g, e1, e2, e3, e4, e5⟩ := e r l
  exact ⟨wy, kd, c, g, by omega, e2, (q3 wy e1).trans e3, by omega, e5⟩
theorem cRuns.n0 {n n' w b : Nat} {Kf : Nat → Int32} {h : zH} (c : cRuns n w 0 Kf b h) : cRuns n' w 0 Kf b h := by
  obtain ⟨r4, -, a, KP, rW, rS, rA, rB, sA, oA, d, e, f⟩ := c
  exact ⟨r4, Or.inl rfl, a, KP, rW, rS, rA, rB, sA, oA, d, fun r l => absurd l (Nat.not_lt_zero r), f⟩
/-- everything but the orders -/
def BAS (n : Nat) (X : Nat → Nat → Nat) (Le : Nat → Nat) (tl w rb ran : Nat) (Kf : Nat → Int32) (b : Nat) (h : zH) : Prop := cObj n tl w rb ran h ∧ cTape tl h ∧ cHuts n X Le h ∧ cKinds w Kf h ∧ cRuns n w rb Kf b h ∧ cSp h ∧ cScr h ∧ cActs ran h ∧ cSh w h
-- the objects, read and written
theorem HO_rd {tl w rb : Nat} {h : zH} (ha : h 0 = HO tl w rb) : zcls h 0 = 6 ∧ zrR h 0 6 0 = some 1 ∧ zrI h 0 6 1 = some (nI tl) ∧ zrR h 0 6 2 = some 2 ∧ zrR h 0 6 3 = some 18 ∧ zrI h 0 6 4 = some (nI w) ∧ zrR h 0 6 5 = some 19 ∧ zrI h 0 6 6 = some (nI rb) ∧ zrR h 0 6 7 = some 20 ∧ zrR h 0 6 8 = some 21 ∧ zrR h 0 6 9 = some 332 ∧ zrR h 0 6 10 = some 643 ∧ zrR h 0 6 11 = some 645 :=
  ⟨zcls_of ha, zrR_of ha rfl, zrI_of ha rfl, zrR_of ha rfl, zrR_of ha rfl, zrI_of ha rfl, zrR_of ha rfl, zrI_of ha rfl, zrR_of ha rfl, zrR_of ha rfl, zrR_of ha rfl, zrR_of ha rfl, zrR_of ha rfl⟩
theorem HO_wr {tl w rb : Nat} {h : zH} (ha : h 0 = HO tl w rb) : (∀ x, zwI h 0 6 1 (nI x) = some (zup h 0 (HO x w rb))) ∧ (∀ x, zwI h 0 6 4 (nI x) = some (zup h 0 (HO tl x rb))) ∧ ∀ x, zwI h 0 6 6 (nI x) = some (zup h 0 (HO tl w x)) :=
  ⟨fun x => zwI_of ha (by simp), fun x => zwI_of ha (by simp), fun x => zwI_of ha (by simp)⟩
theorem HO_cv {tl w rb : Nat} {h : zH} (ha : h 0 = HO tl w rb) {α : Type} (o : Option α) : zcv h 0 6 o = o := zcv_of (HO_rd ha).1
theorem isWay_H {tl w rb : Nat} {h : zH} (ha : h 0 = HO tl w rb) (hw : w ≤ 10) (x : Int32) : m_Home_isWay 0 x h = some (if ix x w = none then nI 0 else nI 1) := by
  have e := (HO_rd ha).2.2.2.2.2.1
  rcases ix_cases x w (by omega) with ⟨z, q⟩ | ⟨k, hk, rfl, z⟩
  · rw [z, if_pos rfl]
    by_cases q0 : x < 0
    · simp only [m_Home_isWay, eq_true q0, if_true]
    · simp only [m_Home_isWay, eq_false q0, if_false, e, bind_some', eq_true (q.resolve_left q0), if_true]
  · rw [z]
    have c : (w ≤ k) = False := eq_false (by omega)
    have c2 : ((some k : Option Nat) = none) = False := by simp
    simp (disch := omega) only [m_Home_isWay, nI_lt0, if_false, e, bind_some', nI_le_iff, c, c2]
theorem isRun_H {tl w rb : Nat} {h : zH} (ha : h 0 = HO tl w rb) (hr : rb ≤ 4) (x : Int32) : m_Home_isRun 0 x h = some (if ix x rb = none then nI 0 else nI 1) := by
  have e := (HO_rd ha).2.2.2.2.2.2.2.1
  rcases ix_cases x rb (by omega) with ⟨z, q⟩ | ⟨k, hk, rfl, z⟩
  · rw [z, if_pos rfl]
    by_cases q0 : x < 0
    · simp only [m_Home_isRun, eq_true q0, if_true]
    · simp only [m_Home_isRun, eq_false q0, if_false, e, bind_some', eq_true (q.resolve_left q0), if_true]
  · rw [z]
    have c : (rb ≤ k) = False := eq_false (by omega)
    have c2 : ((some k : Option Nat) = none) = False := by simp
    simp (disch := omega) only [m_Home_isRun, nI_lt0, if_false, e, bind_some', nI_le_iff, c, c2]
theorem isWay_M {w : Nat} {m : Nat → Int32} {h : zH} (hm : h 670 = MO m) (h6 : m 6 = nI w) (hw : w ≤ 10) (x : Int32) : m_Model_isWay 670 x h = some (if ix x w = none then nI 0 else nI 1) := by
  have e : zrI h 670 7 6 = some (nI w) := by rw [MO_rd h m (by unfold mosc; omega) hm, h6]
  rcases ix_cases x w (by omega) with ⟨z, q⟩ | ⟨k, hk, rfl, z⟩
  · rw [z, if_pos rfl]
    by_cases q0 : x < 0
    · simp only [m_Model_isWay, eq_true q0, if_true]
    · simp only [m_Model_isWay, eq_false q0, if_false, e, bind_some', eq_true (q.resolve_left q0), if_true]
  · rw [z]
    have c : (w ≤ k) = False := eq_false (by omega)
    have c2 : ((some k : Option Nat) = none) = False := by simp
    simp (disch := omega) only [m_Model_isWay, nI_lt0, if_false, e, bind_some', nI_le_iff, c, c2]
theorem isRun_M {rb : Nat} {m : Nat → Int32} {h : zH} (hm : h 670 = MO m) (h19 : m 19 = nI rb) (hr : rb ≤ 4) (x : Int32) : m_Model_isRun 670 x h = some (if ix x rb = none then nI 0 else nI 1) := by
  have e : zrI h 670 7 19 = some (nI rb) := by rw [MO_rd h m (by unfold mosc; omega) hm, h19]
  rcases ix_cases x rb (by omega) with ⟨z, q⟩ | ⟨k, hk, rfl, z⟩
  · rw [z, if_pos rfl]
    by_cases q0 : x < 0
    · simp only [m_Model_isRun, eq_true q0, if_true]
    · simp only [m_Model_isRun, eq_false q0, if_false, e, bind_some', eq_true (q.resolve_left q0), if_true]
  · rw [z]
    have c : (rb ≤ k) = False := eq_false (by omega)
    have c2 : ((some k : Option Nat) = none) = False := by simp
    simp (disch := omega) only [m_Model_isRun, nI_lt0, if_false, e, bind_some', nI_le_iff, c, c2]
theorem isHut_M {n : Nat} {m : Nat → Int32} {h : zH} (hm : h 670 = MO m) (h4 : m 4 = nI n) (hn : n ≤ 6) (x : Int32) : m_Model_isHut 670 x h = some (if ix x n = none then nI 0 else nI 1) := by
  have e : zrI h 670 7 4 = some (nI n) := by rw [MO_rd h m (by unfold mosc; omega) hm, h4]
  rcases ix_cases x n (by omega) with ⟨z, q⟩ | ⟨k, hk, rfl, z⟩
  · rw [z, if_pos rfl]
    by_cases q0 : x < 0
    · simp only [m_Model_isHut, eq_true q0, if_true]
    · simp only [m_Model_isHut, eq_false q0, if_false, e, bind_some', eq_true (q.resolve_left q0), if_true]
  · rw [z]
    have c : (n ≤ k) = False := eq_false (by omega)
    have c2 : ((some k : Option Nat) = none) = False := by simp
    simp (disch := omega) only [m_Model_isHut, nI_lt0, if_false, e, bind_some', nI_le_iff, c, c2]
