/-! ALL ORDERS, THE MODEL: all gone through -/
def mid (m m0 : Nat → Int32) : Prop := ∀ j, j ≠ 8 → j ≠ 9 → j ≠ 10 → j ≠ 11 → j ≠ 25 → m j = m0 j
def mSz (b : bT) : Nat := if bBig b = true then 151 else bSz b
def lnk (b : bT) (s t : Nat) : Prop := ∃ k, k < bNs b s ∧ bNx b s k = t
def MOX (m0 : Nat → Int32) (n kd : Nat) (b : bT) (m r F A B C L : Nat → Int32) (h : zH) : Prop :=
  h 670 = MO m ∧ mid m m0 ∧ m 10 = nI kd ∧ m 25 = nI (mSz b) ∧ h 675 = zI32 91 r ∧ (∀ k, 91 ≤ k → r k = 0) ∧ h 683 = zI32 13741 F ∧ h 684 = zI32 151 A ∧ h 685 = zI32 151 B ∧ h 686 = zI1 151 C ∧ h 687 = zI1 22801 L ∧
  (bBig b = false → (∀ s, s < bSz b → (∀ k, k < 91 → F (91 * s + k) = ph (fmo kd) n (bG b s) k) ∧ A s = bAh b s ∧ B s = bCd b s) ∧ ∀ s t, s < 151 → t < 151 → (lnk b s t ∧ L (151 * s + t) = nI 1) ∨ (¬ lnk b s t ∧ L (151 * s + t) = nI 0))
def MOB (m0 : Nat → Int32) (n kd : Nat) (b : bT) (h : zH) : Prop := ∃ m r F A B C L, MOX m0 n kd b m r F A B C L h
def FRM (h h' : zH) : Prop := ∀ k, k ≠ 670 → k ≠ 675 → ¬ (683 ≤ k ∧ k < 688) → h' k = h k
theorem FRM.tr {h h1 h2 : zH} (a : FRM h h1) (b : FRM h1 h2) : FRM h h2 := fun k x y z => (b k x y z).trans (a k x y z)
theorem lnk_link {b : bT} {s t u v : Nat} : lnk (bLink b s t) u v ↔ (lnk b u v ∨ (u = s ∧ v = t)) := by
  show (∃ k, k < xU (bNs b) s (bNs b s + 1) u ∧ xU (bNx b) s (xU (bNx b s) (bNs b s) t) u k = v) ↔ _
  by_cases e : u = s
  · subst e
    rw [xU_eq, xU_eq]
    constructor
    · rintro ⟨k, hk, e⟩
      by_cases e2 : k = bNs b u
      · rw [e2, xU_eq] at e
        exact Or.inr ⟨rfl, e.symm⟩
      · rw [xU_ne e2] at e
        exact Or.inl ⟨k, by omega, e⟩
    · rintro (⟨k, hk, e⟩ | ⟨-, e⟩)
      · exact ⟨k, by omega, by rw [xU_ne (by omega)]; exact e⟩
      · exact ⟨bNs b u, by omega, by rw [xU_eq]; exact e.symm⟩
  · rw [xU_ne e, xU_ne e]
    constructor
    · exact fun q => Or.inl q
    · rintro (q | ⟨q, -⟩)
      · exact q
      · exact absurd q e
theorem lnk_add {b : bT} {g : Nat → Int32} {s c u v : Nat} (h0 : bNs b (bSz b) = 0) : lnk (bAdd b g s c) u v ↔ lnk b u v := by
  show (∃ k, k < xU (bNs b) (bSz b) 0 u ∧ bNx b u k = v) ↔ ∃ k, k < bNs b u ∧ bNx b u k = v
  have : xU (bNs b) (bSz b) 0 u = bNs b u := by
    by_cases e : u = bSz b
    · rw [e, xU_eq, h0]
    · rw [xU_ne e]
  rw [this]
theorem i32_back (a d : Int32) : d + (a - d) = a := by rw [Int32.add_comm, Int32.sub_add_cancel]
section MTY
variable {h : zH} {m0 m r F A B C L : Nat → Int32} {n kd : Nat} {b : bT} {nw : Nat → Int32 → Nat} {go : Nat → Int32 → Nat → Nat}
theorem ms_self {g : Nat → Int32} (h10 : m 10 = nI kd) : ms m kd (m 11) (m 8 - g 121) (m 9 - g 122) g = m := by
  funext j
  unfold ms
  by_cases a : j = 8
  · rw [if_pos a, i32_back, a]
  · rw [if_neg a]
    by_cases b : j = 9
    · rw [if_pos b, i32_back, b]
    · rw [if_neg b]
      by_cases c : j = 10
      · rw [if_pos c, c, h10]
      · rw [if_neg c]
        by_cases d : j = 11
        · rw [if_pos d, d]
        · rw [if_neg d]
theorem ms_v {fu d1 d2 : Int32} {g : Nat → Int32} : ms m kd fu d1 d2 g 10 = nI kd ∧ ms m kd fu d1 d2 g 25 = m 25 ∧ ms m kd fu d1 d2 g 4 = m 4 := ⟨rfl, rfl, rfl⟩
theorem ms_mid {fu d1 d2 : Int32} {g : Nat → Int32} (q : mid m m0) : mid (ms m kd fu d1 d2 g) m0 := fun j a b c d e => by
  unfold ms
  rw [if_neg a, if_neg b, if_neg c, if_neg d]
  exact q j a b c d e
theorem MOX.toM {fm : Nat} {fu d1 d2 : Int32} {g : Nat → Int32} (X : MOX m0 n kd b m r F A B C L h) : MOX m0 n kd b (ms m kd fu d1 d2 g) (ph fm n g) F A B C L (mg h m fm n kd fu d1 d2 g) := by
  obtain ⟨a1, a2, a3, a4, a5, a6, a7, a8, a9, a10, a11, a12⟩ := X
  have q : ∀ k, k ≠ 670 → k ≠ 675 → mg h m fm n kd fu d1 d2 g k = h k := fun k x y => mh_ne x y
  exact ⟨M_670, ms_mid a2, rfl, a4, M_675, fun k hk => ph_hi hk, by rw [q _ (by omega) (by omega)]; exact a7, by rw [q _ (by omega) (by omega)]; exact a8, by rw [q _ (by omega) (by omega)]; exact a9, by rw [q _ (by omega) (by omega)]; exact a10, by rw [q _ (by omega) (by omega)]; exact a11, a12⟩
theorem nar_1 : vp_nar .boolean (nI 1) = nI 1 := by decide
theorem nar_0 : vp_nar .boolean (nI 0) = nI 0 := by decide
/-- a step written down: from state s to t -/
theorem M_mark (h687 : h 687 = zI1 22801 L) (hm : h 670 = MO m) {s t c : Nat} (hs : s < 151) (ht : t < 151) (k2 : (Int32 × zH) → Option zH) : g_Model_goFrom_67 670 (nI s) (nI c) (nI t) h k2 = k2 (nI (c + 1), zup h 687 (zI1 22801 (upd L (151 * s + t) (nI 1)))) := by
  obtain ⟨-, -, -, -, -, r24⟩ := Mo_rf hm
  have st : zS32 2 h 687 (nI (151 * s + t)) (nI 1) = some (zup h 687 (zI1 22801 (upd L (151 * s + t) (nI 1)))) := zS32_of h687 (by omega) (by omega)
  simp only [g_Model_goFrom_67, r24, bind_some', pk_mul, nI_add, zsZ, nar_1, st]
theorem M_try (X : MOX m0 n kd b m r F A B C L h) (h4 : m0 4 = nI n) (K : bOK kd n b) (hb : bBig b = false) (hkd : kd < 9) (n6 : n ≤ 6) (hn0 : 0 < n) (H : MU n nw go h) (hgo : ∀ hh, hh < n → ∀ l i, i < nw hh l → go hh l i < 6) (hnw : ∀ hh, hh < n → ∀ l, nw hh l ≤ 270) {s sort i : Nat} (hs : s < bSz b) (hso : sort < 4) (hi' : i < 8) (k2 : (Int32 × zH) → Option zH) : ∃ h', g_Model_goFrom_2 670 (nI s) k2 (nI (100 * sort + i), h) = k2 (nI (100 * sort + i + 1), h') ∧ MOB m0 n kd (bTry kd n nw go b s sort i) h' ∧ FRM h h' := by
  obtain ⟨V, -, D⟩ := K.2.2.1 s hs
  have h150 := K.2.1
  obtain ⟨a1, a2, a3, a4, a5, a6, a7, a8, a9, a10, a11, a12⟩ := id X
  obtain ⟨a12, a13⟩ := a12 hb
  have ez : mSz b = bSz b := by unfold mSz; rw [hb]; rfl
  rw [ez] at a4
  have hm4 : m 4 = nI n := (a2 4 (by omega) (by omega) (by omega) (by omega) (by omega)).trans h4
  have cv : ∀ {α : Type} (o : Option α), zcv h 670 7 o = o := fun o => MO_cv h m a1 o
  have e25 : zrI h 670 7 25 = some (nI (bSz b)) := by rw [MO_rd h m (by unfold mosc; omega) a1, a4]
  have bb := M_bb (g := bG b s) (fm := fmo kd) (n := n) a1 a5 a6 a7 (show s < 151 by omega) (a12 s hs).1
  have emg : zup h 675 (zI32 91 (ph (fmo kd) n (bG b s))) = mg h m (fmo kd) n kd (m 11) (m 8 - bG b s 121) (m 9 - bG b s 122) (bG b s) := by
    unfold mg mh
    rw [ms_self a3, zup_self a1]
  rw [emg] at bb
  have ds := M_doStep (h := h) (m := m) (fu := m 11) (d1 := m 8 - bG b s 121) (d2 := m 9 - bG b s 122) (sort := sort) (by omega) (nI i) hkd rfl n6 hn0 hm4 (show bDp b s ≤ 1000000 by omega) H hgo hnw V
  have c400 : (400 ≤ 100 * sort + i) = False := eq_false (by omega)
  have c151 : (151 ≤ bSz b) = False := eq_false (by omega)
  have er : nI (100 * sort + i) - nI (100 * sort + i) / nI 100 * nI 100 = nI i := by
    rw [pk_rem (by omega) (by omega) (by omega)]
    congr 1; omega
  have ed : nI (100 * sort + i) / nI 100 = nI sort := by
    rw [pk_div (by omega) (by omega) (by omega)]
    congr 1; omega
  have er2 : nI (100 * sort + i) - nI sort * nI 100 = nI i := by rw [← ed]; exact er
  have c8 : (8 ≤ i) = False := eq_false (by omega)
  have hst : (aStep kd (fmo kd) n nw go sort (nI i) (bG b s)).1 = nI 1 → IV (fmo kd) n (bDp b s + 1) 0 (aStep kd (fmo kd) n nw go sort (nI i) (bG b s)).2 := fun e => V.step n6 hn0 (fmo_lt kd) (by omega) hnw e
  have cvg : ∀ {α : Type} (fu d1 d2 : Int32) (g : Nat → Int32) (o : Option α), zcv (mg h m (fmo kd) n kd fu d1 d2 g) 670 7 o = o := fun _ _ _ _ o => M_cv o
  have frg : ∀ (fu d1 d2 : Int32) (g : Nat → Int32), FRM h (mg h m (fmo kd) n kd fu d1 d2 g) := fun _ _ _ _ k x y _ => mh_ne x y
  rcases ds with ⟨e, y⟩ | ⟨e, fu, g', -, y⟩
  · unfold bTry
    rw [if_neg (by rw [hb]; simp), if_pos e]
    have V2 := hst e
    have X1 := X.toM (fm := fmo kd) (fu := nI 0) (d1 := m 8 - bG b s 121) (d2 := m 9 - bG b s 122) (g := (aStep kd (fmo kd) n nw go sort (nI i) (bG b s)).2)
    have fr1 := frg (nI 0) (m 8 - bG b s 121) (m 9 - bG b s 122) (aStep kd (fmo kd) n nw go sort (nI i) (bG b s)).2
    have cv1 := fun {α : Type} (o : Option α) => cvg (nI 0) (m 8 - bG b s 121) (m 9 - bG b s 122) (aStep kd (fmo kd) n nw go sort (nI i) (bG b s)).2 o
    generalize (aStep kd (fmo kd) n nw go sort (nI i) (bG b s)).2 = g' at y V2 X1 fr1 cv1
    generalize hm1 : ms m kd (nI 0) (m 8 - bG b s 121) (m 9 - bG b s 122) g' = m1 at X1
    generalize mg h m (fmo kd) n kd (nI 0) (m 8 - bG b s 121) (m 9 - bG b s 122) g' = h1 at y X1 fr1 cv1
    obtain ⟨b1, b2, b3, b4, b5, b6, b7, b8, b9, b10, b11, -⟩ := id X1
    rw [ez] at b4
    have fs := M_fs b1 b4 b5 b7 h150 (fmo_lt kd) n6 V2 (fun s hs => ⟨_, (K.2.2.1 s hs).1⟩) (fun s hs => (a12 s hs).1)
    have e25' : zrI h1 670 7 25 = some (nI (bSz b)) := by rw [MO_rd h1 m1 (by unfold mosc; omega) b1, b4]
    have n10 : (nI 1 ≤ (0 : Int32)) = False := by decide
    rcases ef : fnd (bG b) g' (bSz b) 0 with _ | t
    · rw [ef] at fs
      have fs : m_Model_findState 670 h1 = some (nI (bSz b)) := fs
      obtain ⟨h2, k1, k3, k4, k5, k6, k7⟩ := M_ks b1 b4 (show bSz b < 151 by omega) b5 b7 b8 b9 (nI s) (nI (100 * sort + i))
      have h687 : h2 687 = zI1 22801 L := by rw [k7 _ (by omega) (by omega) (by omega) (by omega)]; exact b11
      have mk := M_mark (c := 100 * sort + i) (t := bSz b) h687 k3 (show s < 151 by omega) (by omega) k2
      refine ⟨zup h2 687 (zI1 22801 (upd L (151 * s + bSz b) (nI 1))), ?_, ?_, fun k x1 x2 x3 => by rw [zup_ne (by omega), k7 k x1 (by omega) (by omega) (by omega), fr1 k x1 x2 x3]⟩
      · simp (disch := omega) only [g_Model_goFrom_2, nI_le_iff, c400, if_false, e25, bind_some', c151, er, ed, er2, c8, cv, bb, cvg, y, zb2_some, n10, cv1, fs, e25', if_true, k1, mk]
      · have mi : mid (upd m1 25 (nI (bSz b + 1))) m0 := fun j q1 q2 q3 q4 q5 => by rw [upd_ne q5]; exact b2 j q1 q2 q3 q4 q5
        have z10 : upd m1 25 (nI (bSz b + 1)) 10 = nI kd := b3
        dsimp only
        by_cases hz : bSz b < 150
        · rw [if_pos hz]
          refine ⟨upd m1 25 (nI (bSz b + 1)), ph (fmo kd) n g', kF F (bSz b) 0 (ph (fmo kd) n g'), upd A (bSz b) (nI s), upd B (bSz b) (nI (100 * sort + i)), C, upd L (151 * s + bSz b) (nI 1), by rw [zup_ne (by omega)]; exact k3, mi, z10, ?_, by rw [zup_ne (by omega), k7 _ (by omega) (by omega) (by omega) (by omega)]; exact b5, b6, by rw [zup_ne (by omega)]; exact k4, by rw [zup_ne (by omega)]; exact k5, by rw [zup_ne (by omega)]; exact k6, by rw [zup_ne (by omega), k7 _ (by omega) (by omega) (by omega) (by omega)]; exact b10, zup_eq _ _ _, fun hb' => ⟨fun u hu => ?_, fun u v hu hv => ?_⟩⟩
          · rw [upd_eq]
            unfold mSz
            have e : bBig (bLink (bAdd b g' s (100 * sort + i)) s (bSz b)) = false := hb
            rw [if_neg (by rw [e]; simp)]
            rfl
          · have hu : u < bSz b + 1 := hu
            refine ⟨fun k hk => ?_, ?_, ?_⟩
            · show kF F (bSz b) 0 (ph (fmo kd) n g') (91 * u + k) = ph (fmo kd) n (xU (bG b) (bSz b) g' u) k
              unfold kF
              by_cases e : u = bSz b
              · rw [e, xU_eq, if_pos (by omega)]
                congr 1; omega
              · rw [xU_ne e, if_neg (by omega)]
                exact (a12 u (by omega)).1 k hk
            · show upd A (bSz b) (nI s) u = xU (bAh b) (bSz b) (nI s) u
              by_cases e : u = bSz b
              · rw [e, xU_eq, upd_eq]
              · rw [xU_ne e, upd_ne e]; exact (a12 u (by omega)).2.1
            · show upd B (bSz b) (nI (100 * sort + i)) u = xU (bCd b) (bSz b) (nI (100 * sort + i)) u
              by_cases e : u = bSz b
              · rw [e, xU_eq, upd_eq]
              · rw [xU_ne e, upd_ne e]; exact (a12 u (by omega)).2.2
          · rw [lnk_link, lnk_add (K.2.2.2.2.1 _ (Nat.le_refl _))]
            by_cases e : u = s ∧ v = bSz b
            · refine Or.inl ⟨Or.inr e, ?_⟩
              rw [e.1, e.2, upd_eq]
            · rw [upd_ne (by omega)]
              rcases a13 u v hu hv with ⟨q, q2⟩ | ⟨q, q2⟩
              · exact Or.inl ⟨Or.inl q, q2⟩
              · exact Or.inr ⟨fun w => w.elim q e, q2⟩
        · rw [if_neg hz]
          refine ⟨upd m1 25 (nI (bSz b + 1)), ph (fmo kd) n g', kF F (bSz b) 0 (ph (fmo kd) n g'), upd A (bSz b) (nI s), upd B (bSz b) (nI (100 * sort + i)), C, upd L (151 * s + bSz b) (nI 1), by rw [zup_ne (by omega)]; exact k3, mi, z10, ?_, by rw [zup_ne (by omega), k7 _ (by omega) (by omega) (by omega) (by omega)]; exact b5, b6, by rw [zup_ne (by omega)]; exact k4, by rw [zup_ne (by omega)]; exact k5, by rw [zup_ne (by omega)]; exact k6, by rw [zup_ne (by omega), k7 _ (by omega) (by omega) (by omega) (by omega)]; exact b10, zup_eq _ _ _, fun hb' => ?_⟩
          · rw [upd_eq]
            show nI (bSz b + 1) = nI 151
            congr 1; omega
          · have hb' : true = false := hb'
            cases hb'
    · rw [ef] at fs
      have fs : m_Model_findState 670 h1 = some (nI t) := fs
      obtain ⟨-, t2, -⟩ := fnd_some _ _ _ ef
      have mk := M_mark (c := 100 * sort + i) (t := t) b11 b1 (show s < 151 by omega) (by omega) k2
      have ct : (t = bSz b) = False := eq_false (by omega)
      refine ⟨zup h1 687 (zI1 22801 (upd L (151 * s + t) (nI 1))), ?_, ?_, fun k x1 x2 x3 => by rw [zup_ne (by omega), fr1 k x1 x2 x3]⟩
      · simp (disch := omega) only [g_Model_goFrom_2, nI_le_iff, c400, if_false, e25, bind_some', c151, er, ed, er2, c8, cv, bb, cvg, y, zb2_some, n10, cv1, fs, e25', nI_eq_iff, ct, mk]
      · refine ⟨m1, ph (fmo kd) n g', F, A, B, C, upd L (151 * s + t) (nI 1), by rw [zup_ne (by omega)]; exact b1, b2, b3, ?_, by rw [zup_ne (by omega)]; exact b5, b6, by rw [zup_ne (by omega)]; exact b7, by rw [zup_ne (by omega)]; exact b8, by rw [zup_ne (by omega)]; exact b9, by rw [zup_ne (by omega)]; exact b10, zup_eq _ _ _, fun hb' => ⟨a12, fun u v hu hv => ?_⟩⟩
        · rw [b4]
          unfold mSz
          have e : bBig (bLink b s t) = false := hb
          rw [if_neg (by rw [e]; simp)]
          rfl
        · rw [lnk_link]
          by_cases e : u = s ∧ v = t
          · refine Or.inl ⟨Or.inr e, ?_⟩
            rw [e.1, e.2, upd_eq]
          · rw [upd_ne (by omega)]
            rcases a13 u v hu hv with ⟨q, q2⟩ | ⟨q, q2⟩
            · exact Or.inl ⟨Or.inl q, q2⟩
            · exact Or.inr ⟨fun w => w.elim q e, q2⟩
  · have ne : ¬ (aStep kd (fmo kd) n nw go sort (nI i) (bG b s)).1 = nI 1 := fun w => by
      rw [w] at e
      rcases e with e | e
      · exact absurd e (by decide)
      · exact absurd e (by decide)
    rw [bTry_no ne]
    refine ⟨mg h m (fmo kd) n kd fu (m 8 - bG b s 121) (m 9 - bG b s 122) g', ?_, ⟨_, _, _, _, _, _, _, X.toM⟩, frg _ _ _ _⟩
    have le : ((aStep kd (fmo kd) n nw go sort (nI i) (bG b s)).1 ≤ 0) = True := by
      rcases e with e | e <;> rw [e] <;> decide
    simp (disch := omega) only [g_Model_goFrom_2, nI_le_iff, c400, if_false, e25, bind_some', c151, er, ed, er2, c8, cv, bb, cvg, y, zb2_some, le, if_true, nI_add]
end MTY
