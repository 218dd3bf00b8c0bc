/-! STEPS OF RUNS, ONE OR MANY -/
theorem MU.fr {n : Nat} {nw : Nat → Int32 → Nat} {go : Nat → Int32 → Nat → Nat} {h h' : zH} (H : MU n nw go h) (a : h' 672 = h 672) (b : h' 673 = h 673) : MU n nw go h' := fun hh q => by
  obtain ⟨L, x, y, z, t⟩ := H hh q
  exact ⟨L, x, y, z, fun h2 m' e1 e2 e3 => t h2 m' e1 (e2.trans a) (e3.trans b)⟩
section BR
variable {h h2 : zH} {n tl w rb ran b b' r wy kd c c' : Nat} {X : Nat → Nat → Nat} {Le : Nat → Nat} {Kf : Nat → Int32} {g g' : Nat → Int32} {sa' oa' : Int32}
/-- a run that is there, both sides -/
theorem BAS_at (B : BAS n X Le tl w rb ran Kf b h) (hr : r < rb) : ∃ (wy kd c : Nat) (g : Nat → Int32) (KP rW rS rA rB sA oA m : Nat → Int32), wy < w ∧ kd < 9 ∧ Kf wy = nI kd ∧ c ≤ b ∧ RC r wy kd g c (sA r) (oA r) h ∧ RMH r wy n kd KP rW rS rA rB sA oA m g c (sA r) (oA r) h ∧ IV (fmo kd) n c 0 g ∧ okT (sA r) ∧ okT (oA r) ∧ r < 4 ∧ 0 < n ∧ m 4 = nI n := by
  obtain ⟨⟨h0, m, hm, m1, m4, m6, m19, m27⟩, cT, cH, cK, cR, cS, cC, cA, cX⟩ := id B
  obtain ⟨r4, rn, a19, KP, rW, rS, rA, rB, sA, oA, hRA, hA, hB⟩ := id cR
  obtain ⟨wy, kd, c, g, x1, x2, x3, x4, x5, x6, x7, x8, x9, x10, x11, x12, x13, x14, x15⟩ := hA r hr
  exact ⟨wy, kd, c, g, KP, rW, rS, rA, rB, sA, oA, m, x1, x2, x3, x4, ⟨x5, x6, x7⟩, ⟨hRA, hm, cC.1, x9, x10, x11, x12, rfl, rfl, x15⟩, x8, x13, x14, by omega, by omega, m4⟩
/-- the world with that run gone on -/
theorem BAS_run (B : BAS n X Le tl w rb ran Kf b h) (hr : r < rb) (bb : b ≤ b') {KP rW rS rA rB sA oA m KP' rW' rS' rA' rB' sA' oA' m' : Nat → Int32} (hRA : RA h KP rW rS rA rB sA oA) (hm : h 670 = MO m) (hwy : wy < w) (hkd : kd < 9) (ekd : Kf wy = nI kd) (hc : c' ≤ b') (C : RC r wy kd g' c' sa' oa' h2) (S : cSp h2) (M : RMH r wy n kd KP' rW' rS' rA' rB' sA' oA' m' g' c' sa' oa' h2) (E : RSame r KP rW rS rA rB sA oA KP' rW' rS' rA' rB' sA' oA') (hV : IV (fmo kd) n c' 0 g') (o1 : okT sa') (o2 : okT oa') (em : ∀ j, j ≠ 8 ∧ j ≠ 9 ∧ j ≠ 10 ∧ j ≠ 11 → m' j = m j) (q : ∀ k, k ≠ 20 → k ≠ 646 + 3 * r → k ≠ 647 + 3 * r → k ≠ 670 → ¬ (675 ≤ k ∧ k < 683) → h2 k = h k) : BAS n X Le tl w rb ran Kf b' h2 ∧ ∀ k, 21 ≤ k → k < 643 → h2 k = h k := by
  obtain ⟨⟨h0, mm, hmm, m1, m4, m6, m19, m27⟩, cT, cH, cK, cR, cS, cC, cA, cX⟩ := id B
  obtain ⟨r4, rn, ⟨gg, a19, a19'⟩, KP0, rW0, rS0, rA0, rB0, sA0, oA0, hRA0, hA, hB⟩ := id cR
  obtain ⟨c1, c2, c3⟩ := C
  obtain ⟨d1, d2, d3, e1, e2, e3, e4, e5, e6, e7⟩ := M
  have eqm : mm = m ∨ True := Or.inr trivial
  have key : ∀ (j : Nat), mosc j → mm j = m j := fun j hj => by
    have x := MO_rd h mm hj hmm
    have y := MO_rd h m hj hm
    exact Option.some.inj (x.symm.trans y)
  have rE : ∀ {a : Nat} {f f' : Nat → Int32}, h a = zI32 4 f → h a = zI32 4 f' → f = f' := fun x y => by
    have := x.symm.trans y
    simpa [zI32] using this
  have rE3 : ∀ {a : Nat} {f f' : Nat → Int32}, h a = zI32 364 f → h a = zI32 364 f' → f = f' := fun x y => by
    have := x.symm.trans y
    simpa [zI32] using this
  obtain ⟨y1, y2, y3, y4, y5, y6, y7⟩ := hRA
  obtain ⟨z1, z2, z3, z4, z5, z6, z7⟩ := hRA0
  obtain rfl := rE3 y1 z1
  obtain rfl := rE y2 z2
  obtain rfl := rE y3 z3
  obtain rfl := rE y4 z4
  obtain rfl := rE y5 z5
  obtain rfl := rE y6 z6
  obtain rfl := rE y7 z7
  refine ⟨⟨⟨by rw [q 0 (by omega) (by omega) (by omega) (by omega) (by omega)]; exact h0, m', d2, ?_, ?_, ?_, ?_, ?_⟩, cT.fr fun k y => q k (by omega) (by omega) (by omega) (by omega) (by omega), cH.fr fun k y => q k (by omega) (by omega) (by omega) (by omega) (by omega), cK.fr fun k y => q k (by omega) (by omega) (by omega) (by omega) (by omega), ⟨r4, rn, ⟨gg, by rw [q 19 (by omega) (by omega) (by omega) (by omega) (by omega)]; exact a19, a19'⟩, KP', rW', rS', rA', rB', sA', oA', d1, fun t ht => ?_, fun t ht ht4 => ?_⟩, S, ⟨d3, ?_⟩, cA.fr fun k y => q k (by omega) (by omega) (by omega) (by omega) (by omega), cX.fr fun k y => q k (by omega) (by omega) (by omega) (by omega) (by omega)⟩, fun k a b => q k (by omega) (by omega) (by omega) (by omega) (by omega)⟩
  · rw [em 1 (by omega), ← key 1 (by unfold mosc; omega)]; exact m1
  · rw [em 4 (by omega), ← key 4 (by unfold mosc; omega)]; exact m4
  · rw [em 6 (by omega), ← key 6 (by unfold mosc; omega)]; exact m6
  · rw [em 19 (by omega), ← key 19 (by unfold mosc; omega)]; exact m19
  · rw [em 27 (by omega), ← key 27 (by unfold mosc; omega)]; exact m27
  · by_cases e : t = r
    · subst e
      exact ⟨wy, kd, c', g', hwy, hkd, ekd, hc, by rw [e5, e6]; exact c1, c2, c3, hV, e1, e2, e3, e4, by rw [e5]; exact o1, by rw [e6]; exact o2, e7⟩
    · obtain ⟨f1, f2, f3, f4, f5, f6, f7⟩ := E t e
      obtain ⟨wy', kd', c'', g'', x1, x2, x3, x4, x5, x6, x7, x8, x9, x10, x11, x12, x13, x14, x15⟩ := hA t ht
      exact ⟨wy', kd', c'', g'', x1, x2, x3, by omega, by rw [f5, f6, q (646 + 3 * t) (by omega) (by omega) (by omega) (by omega) (by omega)]; exact x5, by rw [q (647 + 3 * t) (by omega) (by omega) (by omega) (by omega) (by omega)]; exact x6, by rw [q (648 + 3 * t) (by omega) (by omega) (by omega) (by omega) (by omega)]; exact x7, x8, f1.trans x9, f2.trans x10, f3.trans x11, f4.trans x12, by rw [f5]; exact x13, by rw [f6]; exact x14, fun k hk => (f7 k hk).trans (x15 k hk)⟩
  · obtain ⟨x1, x2⟩ := hB t ht ht4
    have e : t ≠ r := by omega
    obtain ⟨f1, f2, f3, f4, f5, f6, f7⟩ := E t e
    obtain ⟨a1, a2, a3, a4, k0, f0, g'', u1, u2, u3, u4⟩ := x2
    exact ⟨f2.trans x1, a1, a2, a3, a4, k0, f0, g'', by rw [q (646 + 3 * t) (by omega) (by omega) (by omega) (by omega) (by omega)]; exact u1, by rw [q (647 + 3 * t) (by omega) (by omega) (by omega) (by omega) (by omega)]; exact u2, u3, by rw [q (648 + 3 * t) (by omega) (by omega) (by omega) (by omega) (by omega)]; exact u4⟩
  · rw [q 683 (by omega) (by omega) (by omega) (by omega) (by omega), q 684 (by omega) (by omega) (by omega) (by omega) (by omega), q 685 (by omega) (by omega) (by omega) (by omega) (by omega), q 686 (by omega) (by omega) (by omega) (by omega) (by omega), q 687 (by omega) (by omega) (by omega) (by omega) (by omega)]
    exact cC.2
theorem RMH.fr {r wy n kd c : Nat} {KP rW rS rA rB sA oA m g : Nat → Int32} {sa oa : Int32} {h h' : zH} (M : RMH r wy n kd KP rW rS rA rB sA oA m g c sa oa h) (q : ∀ k, 670 ≤ k ∧ k < 683 → h' k = h k) : RMH r wy n kd KP rW rS rA rB sA oA m g c sa oa h' := by
  obtain ⟨a, b, ⟨rr, c, d⟩, e⟩ := M
  exact ⟨a.fr fun k y => q k (by omega), by rw [q 670 (by omega)]; exact b, ⟨rr, by rw [q 675 (by omega)]; exact c, d⟩, e⟩
theorem RC.fr {r wy kd c : Nat} {g : Nat → Int32} {sa oa : Int32} {h h' : zH} (C : RC r wy kd g c sa oa h) (q : ∀ k, 646 + 3 * r ≤ k ∧ k < 649 + 3 * r → h' k = h k) : RC r wy kd g c sa oa h' := by
  obtain ⟨a, b, d⟩ := C
  exact ⟨by rw [q _ (by omega)]; exact a, by rw [q _ (by omega)]; exact b, by rw [q _ (by omega)]; exact d⟩
end BR
section STEP
variable {h : zH} {n tl w rb ran b : Nat} {X : Nat → Nat → Nat} {Le : Nat → Nat} {Kf : Nat → Int32}
theorem f_step (B : BAS n X Le tl w rb ran Kf b h) (hb : b ≤ 900000) (x y i : Int32) : ∃ r h1 h2, m_Home_step 0 x y i h = some (r, h1) ∧ m_Model_step 670 x y i h1 = some (r, h2) ∧ BAS n X Le tl w rb ran Kf (b + 1) h2 ∧ ∀ k, 21 ≤ k → k < 643 → h2 k = h k := by
  obtain ⟨⟨h0, m, hm, m1, m4, m6, m19, m27⟩, cT, cH, ⟨w10, k18, k674, kk⟩, cR, cS, cC, cA, cX⟩ := id B
  have n1 := nI1_0
  have n0 := nI0_0
  have r4 := cR.1
  have cvh := fun {α : Type} (o : Option α) => HO_cv h0 o
  have cvm := fun {α : Type} (o : Option α) => MO_cv h m hm o
  have ir := isRun_H h0 r4 x
  have ir' := isRun_M hm m19 r4 x
  have wi := M_wX (h := h) (x := y) (b := 4) (hi := 4) rfl (by omega)
  have Bm : BAS n X Le tl w rb ran Kf (b + 1) h := ⟨⟨h0, m, hm, m1, m4, m6, m19, m27⟩, cT, cH, ⟨w10, k18, k674, kk⟩, cR.mono (Nat.le_refl _) (by omega) (fun _ _ => rfl), cS, cC, cA, cX⟩
  rcases ix_cases x rb (by omega) with ⟨z, -⟩ | ⟨r, hr, rfl, z⟩
  · rw [z, if_pos rfl] at ir ir'
    exact ⟨-1, h, h, by simp only [m_Home_step, cvh, ir, bind_some', n0, if_true], by simp only [m_Model_step, cvm, ir', bind_some', n0, if_true], Bm, fun _ _ _ => rfl⟩
  rw [z] at ir ir'
  have e0 : ((some r : Option Nat) = none) = False := by simp
  simp only [e0, if_false] at ir ir'
  rcases ix_cases y 5 (by omega) with ⟨z2, c⟩ | ⟨t, ht, rfl, z2⟩
  · rw [show 4 + 1 = 5 from rfl, z2, if_pos rfl] at wi
    refine ⟨-1, h, h, ?_, by simp only [m_Model_step, cvm, ir', bind_some', n1, if_false, wi, n0, if_true], Bm, fun _ _ _ => rfl⟩
    by_cases c0 : y < 0
    · simp only [m_Home_step, cvh, ir, bind_some', n1, if_false, eq_true c0, if_true]
    · have c4 : (y ≤ nI 4) = False := by
        have := c.resolve_left c0
        obtain ⟨j, hj, rfl⟩ := nI_of c0
        exact eq_false (fun q => by
          have a := (nI_leI (by omega) hj).mp this
          have a2 := (nI_leI hj (by omega)).mp q
          omega)
      simp only [m_Home_step, cvh, ir, bind_some', n1, if_false, eq_false c0, c4]
  obtain ⟨q5, r19⟩ := cRuns_at cR h0
  have q7 : zrR h 0 6 7 = some 20 := (HO_rd h0).2.2.2.2.2.2.2.2.1
  obtain ⟨wy, kd, c, g, KP, rW, rS, rA, rB, sA, oA, mm, a1, a2, a3, a4, C, M, V, o1, o2, r4', n0', mm4⟩ := BAS_at B hr
  have n6 := cH.1
  have HUh := cH.HU
  have hgo : ∀ hh, hh < n → ∀ l i, i < nwF X Le hh l → goF X Le hh l i < 6 := fun hh q l i qi => hu_go HUh q qi
  have hnw : ∀ hh, hh < n → ∀ l, nwF X Le hh l ≤ 270 := fun hh q l => hu_nw HUh q l
  obtain ⟨h1, fr1, S1, D⟩ := c_adv (i := i) (sort := t) r4' C cS HUh a2 n0' (by omega) (by omega) V
  have M1 : RMH r wy n kd KP rW rS rA rB sA oA mm g c (sA r) (oA r) h1 := M.fr fun k q => fr1 k (by omega) (by omega) (by omega)
  obtain ⟨h2, KP', rS', rA', rB', sA', oA', m', fr2, em, E, D2⟩ := m_adv (i := i) (sort := t) (Kf := Kf) r4' M1 (by rw [fr1 674 (by omega) (by omega) (by omega)]; exact k674) (by omega) a3 mm4 (cH.MU.fr (fr1 672 (by omega) (by omega) (by omega)) (fr1 673 (by omega) (by omega) (by omega))) hgo hnw o1 o2 a2 n6 n0' (by omega) ht V
  have q : ∀ k, k ≠ 20 → k ≠ 646 + 3 * r → k ≠ 647 + 3 * r → k ≠ 670 → ¬ (675 ≤ k ∧ k < 683) → h2 k = h k := fun k a b c d e => by rw [fr2 k d e, fr1 k a b c]
  have S2 : cSp h2 := S1.fr fun k y => by subst y; exact fr2 20 (by omega) (by omega)
  have t0 : (nI t < 0) = False := nI_lt0 (by omega)
  have t4 : (nI t ≤ nI 4) = True := eq_true ((nI_leI (by omega) (by omega)).mpr (by omega))
  have cvr : ∀ {α : Type} (o : Option α), zcv h (646 + 3 * r) 4 o = o := fun o => zcv_of (zcls_of C.1)
  have hm1 : h1 670 = MO mm := M1.2.1
  have mm19 : mm 19 = nI rb := by
    have x := MO_rd h mm (j := 19) (by unfold mosc; omega) M.2.1
    have y := MO_rd h m (j := 19) (by unfold mosc; omega) hm
    rw [x] at y
    exact (Option.some.inj y).trans m19
  have ir2 := isRun_M hm1 mm19 r4 (nI r)
  rw [z] at ir2
  simp only [e0, if_false] at ir2
  have wi1 := M_wX (h := h1) (x := nI t) (b := 4) (hi := 4) rfl (by omega)
  rw [show 4 + 1 = 5 from rfl, z2] at wi1
  have e0t : ((some t : Option Nat) = none) = False := by simp
  simp only [e0t, if_false] at wi1
  have cvm1 := fun {α : Type} (o : Option α) => MO_cv h1 mm hm1 o
  have hst : (aStep kd (fmo kd) n (nwF X Le) (goF X Le) t i g).1 = nI 1 → IV (fmo kd) n (c + 1) 0 (aStep kd (fmo kd) n (nwF X Le) (goF X Le) t i g).2 := fun e => V.step n6 n0' (fmo_lt kd) (by omega) hnw e
  rcases D with ⟨e, ea, CC⟩ | ⟨e, ea, CC⟩
  · rcases D2 with ⟨-, eb, MM⟩ | ⟨e', -⟩
    · refine ⟨nI (c + 1), h1, h2, by simp only [m_Home_step, cvh, ir, bind_some', n1, if_false, t0, t4, if_true, q5, r19 r r4', q7, cvr, ea, zb2_some], by simp only [m_Model_step, cvm1, ir2, bind_some', n1, if_false, wi1, eb, zb2_some], ?_⟩
      exact BAS_run B hr (by omega) M.1 M.2.1 a1 a2 a3 (by omega) (CC.fr fun k y => fr2 k (by omega) (by omega)) S2 MM E (hst e) (okT_1 _ _ (by omega) o1) (okT_2 _ _ (by omega) o2) em q
    · rw [e] at e'
      rcases e' with e' | e'
      · exact absurd e'.symm n3ne
      · exact absurd e'.symm n5ne
  · rcases D2 with ⟨e', -⟩ | ⟨e', eb, MM⟩
    · exact absurd e' e
    · refine ⟨(aStep kd (fmo kd) n (nwF X Le) (goF X Le) t i g).1, h1, h2, by simp only [m_Home_step, cvh, ir, bind_some', n1, if_false, t0, t4, if_true, q5, r19 r r4', q7, cvr, ea, zb2_some], by simp only [m_Model_step, cvm1, ir2, bind_some', n1, if_false, wi1, eb, zb2_some], ?_⟩
      exact BAS_run B hr (by omega) M.1 M.2.1 a1 a2 a3 (by omega) (CC.fr fun k y => fr2 k (by omega) (by omega)) S2 MM E V o1 o2 em q
end STEP
