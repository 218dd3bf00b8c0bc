/-! SHIFT; LINES AND GOALS -/
theorem zcpJ_of {h : zH} {a b n0 n1 sp dp n : Nat} {f g : Nat → Int64} (ha : h a = zI64 n0 f) (hb : h b = zI64 n1 g) (h0 : sp + n ≤ n0) (h1 : dp + n ≤ n1) (hn : n0 ≤ 100000) (hn1 : n1 ≤ 100000) : zcpJ h a (nI sp) b (nI dp) (nI n) = some (zup h b (zI64 n1 (va_cpy f g sp dp n))) := by
  have e0 : (nI sp).toNatClampNeg = sp := nI_cl (by omega)
  have e1 : (nI dp).toNatClampNeg = dp := nI_cl (by omega)
  have en : (nI n).toNatClampNeg = n := nI_cl (by omega)
  have l0 : ¬ nI sp < 0 := nI_pos (by omega)
  have l1 : ¬ nI dp < 0 := nI_pos (by omega)
  have ln : ¬ nI n < 0 := nI_pos (by omega)
  unfold zcpJ
  rw [ha, hb]
  simp only [e0, e1, en]
  rw [if_pos ⟨trivial, trivial, l0, l1, ln, h0, h1⟩]
section SHIFT
variable {h : zH} {n tl w rb ran b : Nat} {X : Nat → Nat → Nat} {Le : Nat → Nat} {Kf : Nat → Int32}
theorem sh_places {s l : Nat} {so wy : Int32} (hl : l ≤ 60) (ha : h (658 + 2 * s) = SHE s (nI l) so wy) (i v : Int32) : m_Shelf_hasPlaces (658 + 2 * s) i v h = some (if v < 0 ∨ i < 0 ∨ nI l - v < i then nI 0 else nI 1) := by
  have r1 := (SHE_rd ha).2.2.1
  by_cases a : v < 0
  · rw [if_pos (Or.inl a)]
    simp only [m_Shelf_hasPlaces, eq_true a, if_true]
  · by_cases c : i < 0
    · rw [if_pos (Or.inr (Or.inl c))]
      simp only [m_Shelf_hasPlaces, eq_false a, if_false, eq_true c, if_true]
    · by_cases d : nI l - v < i
      · rw [if_pos (Or.inr (Or.inr d))]
        simp only [m_Shelf_hasPlaces, eq_false a, if_false, eq_false c, r1, bind_some', eq_true d, if_true]
      · rw [if_neg (fun q => q.elim a (fun q => q.elim c d))]
        simp only [m_Shelf_hasPlaces, eq_false a, if_false, eq_false c, r1, bind_some', eq_false d]
theorem places_N {l : Nat} (hl : l ≤ 60) {i v : Int32} (q : ¬ (v < 0 ∨ i < 0 ∨ nI l - v < i)) : ∃ vn j, v = nI vn ∧ i = nI j ∧ j + vn ≤ l := by
  have v0 : ¬ v < 0 := fun z => q (Or.inl z)
  have i0 : ¬ i < 0 := fun z => q (Or.inr (Or.inl z))
  have d : ¬ nI l - v < i := fun z => q (Or.inr (Or.inr z))
  obtain ⟨vn, hv, rfl⟩ := nI_of v0
  obtain ⟨j, hj, rfl⟩ := nI_of i0
  refine ⟨vn, j, rfl, rfl, ?_⟩
  have vl : vn ≤ l := by
    rcases Nat.lt_or_ge l vn with z | z
    · exfalso
      apply d
      refine Int32.lt_of_lt_of_le ?_ (nI_pos' hj)
      rw [Int32.lt_iff_toInt_lt, Int32.toInt_sub, nI_toInt (by omega), nI_toInt hv]
      show Int.bmod _ _ < 0
      rw [Int.bmod_eq_of_le (by omega) (by omega)]
      omega
    · exact z
  rw [nI_subn vl] at d
  have := (nI_leI hj (by omega)).mp (Int32.not_lt.mp d)
  omega
theorem M_sh150 {m : Nat → Int32} (hm : h 670 = MO m) {e j v : Nat} (he : e < 6) (hj : j + v ≤ 60) {ca : Nat → Int64} (h692 : h 692 = zI64 60 ca) : ∀ (d k f : Nat) (it : Nat → Int64), v - k = d → k ≤ v → d < f → zloop (g_Model_shift_150 670 (nI e) (nI j) (nI v)) f (nI k, zup h 691 (zI64 360 it)) = some (nI v, zup h 691 (zI64 360 (fun q => if 60 * e + j + k ≤ q ∧ q < 60 * e + j + v then ca (q - (60 * e + j)) else it q))) := by
  have r1 : ∀ e, zrR (zup h 691 e) 670 7 31 = some 691 := fun e => (MO_ref _ m (by rw [zup_ne (by omega)]; exact hm)).2.2.2.2.2.2.2.2.2.2.2.2.2.2.2.2.2.2.2.2.1
  have r2 : ∀ e, zrR (zup h 691 e) 670 7 32 = some 692 := fun e => (MO_ref _ m (by rw [zup_ne (by omega)]; exact hm)).2.2.2.2.2.2.2.2.2.2.2.2.2.2.2.2.2.2.2.2.2
  have l2 : ∀ e k, k < 60 → zaJ (zup h 691 e) 692 (nI k) = some (ca k) := fun e k hk => zaJ_of (by rw [zup_ne (by omega)]; exact h692) hk (by omega)
  intro d
  induction d with
  | zero =>
    intro k f it hd hk hf
    obtain ⟨f, rfl⟩ : ∃ k, f = k + 1 := ⟨f - 1, by omega⟩
    show g_Model_shift_150 670 (nI e) (nI j) (nI v) _ (nI k, zup h 691 (zI64 360 it)) = _
    have c : (v ≤ k) = True := eq_true (by omega)
    simp (disch := omega) only [g_Model_shift_150, nI_le_iff, c, if_true]
    refine congrArg (fun z => some (nI v, zup h 691 (zI64 360 z))) (funext fun k => ?_)
    rw [if_neg (by omega)]
  | succ d ih =>
    intro k f it hd hk hf
    obtain ⟨f, rfl⟩ : ∃ k, f = k + 1 := ⟨f - 1, by omega⟩
    show g_Model_shift_150 670 (nI e) (nI j) (nI v) (zloop _ f) (nI k, zup h 691 (zI64 360 it)) = _
    have c : (v ≤ k) = False := eq_false (by omega)
    simp (disch := omega) only [g_Model_shift_150, nI_le_iff, c, if_false, r1, r2, bind_some', l2, pk_mul, nI_add, zsJ_st]
    rw [ih (k + 1) f _ (by omega) (by omega) (by omega)]
    refine congrArg (fun z => some (nI v, zup h 691 (zI64 360 z))) (funext fun q => ?_)
    unfold vp_updL
    by_cases e1 : q = 60 * e + j + k
    · rw [if_neg (by omega), if_pos e1, if_pos (by omega), show q - (60 * e + j) = k by omega]
    · by_cases e2 : 60 * e + j + k ≤ q ∧ q < 60 * e + j + v
      · rw [if_pos (by omega), if_pos e2]
      · rw [if_neg (by omega), if_neg e1, if_neg e2]
theorem M_sh113 {m : Nat → Int32} (hm : h 670 = MO m) {s e i j v : Nat} (hs : s < 6) (he : e < 6) (hi : i + v ≤ 60) (hj : j + v ≤ 60) {it : Nat → Int64} (h691 : h 691 = zI64 360 it) : ∀ (d k f : Nat) (ca : Nat → Int64), v - k = d → k ≤ v → d < f → zloop (g_Model_shift_113 670 (nI s) (nI i) (nI e) (nI j) (nI v)) f (nI k, zup h 692 (zI64 60 ca)) = some (nI v, zup (zup h 692 (zI64 60 (fun q => if k ≤ q ∧ q < v then it (60 * s + i + q) else ca q))) 691 (zI64 360 (fun q => if 60 * e + j + 0 ≤ q ∧ q < 60 * e + j + v then (if k ≤ q - (60 * e + j) ∧ q - (60 * e + j) < v then it (60 * s + i + (q - (60 * e + j))) else ca (q - (60 * e + j))) else it q))) := by
  have r1 : ∀ e, zrR (zup h 692 e) 670 7 31 = some 691 := fun e => (MO_ref _ m (by rw [zup_ne (by omega)]; exact hm)).2.2.2.2.2.2.2.2.2.2.2.2.2.2.2.2.2.2.2.2.1
  have r2 : ∀ e, zrR (zup h 692 e) 670 7 32 = some 692 := fun e => (MO_ref _ m (by rw [zup_ne (by omega)]; exact hm)).2.2.2.2.2.2.2.2.2.2.2.2.2.2.2.2.2.2.2.2.2
  have h1 : ∀ e, (zup h 692 e) 691 = zI64 360 it := fun e => by rw [zup_ne (by omega)]; exact h691
  have l1 : ∀ e k, k < 360 → zaJ (zup h 692 e) 691 (nI k) = some (it k) := fun e k hk => zaJ_of (h1 e) hk (by omega)
  intro d
  induction d with
  | zero =>
    intro k f ca hd hk hf
    obtain ⟨f, rfl⟩ : ∃ k, f = k + 1 := ⟨f - 1, by omega⟩
    show g_Model_shift_113 670 (nI s) (nI i) (nI e) (nI j) (nI v) _ (nI k, zup h 692 (zI64 60 ca)) = _
    have c : (v ≤ k) = True := eq_true (by omega)
    have z := zN_big
    have lp := M_sh150 (h := zup h 692 (zI64 60 ca)) (m := m) (by rw [zup_ne (by omega)]; exact hm) he hj (zup_eq _ _ _) v 0 zN it (by omega) (by omega) (by omega)
    rw [zup_self (h1 _)] at lp
    simp (disch := omega) only [g_Model_shift_113, nI_le_iff, c, if_true]
    rw [lp]
    have ea : (fun q => if k ≤ q ∧ q < v then it (60 * s + i + q) else ca q) = ca := funext fun q => if_neg (by omega)
    rw [ea]
    refine congrArg (fun z => some (nI v, zup (zup h 692 (zI64 60 ca)) 691 (zI64 360 z))) (funext fun q => ?_)
    by_cases e2 : 60 * e + j + 0 ≤ q ∧ q < 60 * e + j + v
    · rw [if_pos e2, if_pos e2, if_neg (by omega)]
    · rw [if_neg e2, if_neg e2]
  | succ d ih =>
    intro k f ca hd hk hf
    obtain ⟨f, rfl⟩ : ∃ k, f = k + 1 := ⟨f - 1, by omega⟩
    show g_Model_shift_113 670 (nI s) (nI i) (nI e) (nI j) (nI v) (zloop _ f) (nI k, zup h 692 (zI64 60 ca)) = _
    have c : (v ≤ k) = False := eq_false (by omega)
    simp (disch := omega) only [g_Model_shift_113, nI_le_iff, c, if_false, r1, r2, bind_some', l1, pk_mul, nI_add, zsJ_st]
    rw [ih (k + 1) f _ (by omega) (by omega) (by omega)]
    have ea : (fun q => if k + 1 ≤ q ∧ q < v then it (60 * s + i + q) else vp_updL ca k (it (60 * s + i + k)) q) = (fun q => if k ≤ q ∧ q < v then it (60 * s + i + q) else ca q) := funext fun q => by
      unfold vp_updL
      by_cases e1 : q = k
      · rw [if_neg (by omega), if_pos e1, if_pos (by omega), e1]
      · by_cases e2 : k ≤ q ∧ q < v
        · rw [if_pos (by omega), if_pos e2]
        · rw [if_neg (by omega), if_neg e1, if_neg e2]
    rw [ea]
    refine congrArg (fun z => some (nI v, zup _ 691 (zI64 360 z))) (funext fun q => ?_)
    have := congrFun ea (q - (60 * e + j))
    by_cases e9 : 60 * e + j + 0 ≤ q ∧ q < 60 * e + j + v
    · rw [if_pos e9, if_pos e9]
      exact this
    · rw [if_neg e9, if_neg e9]
theorem f_shift (B : BAS n X Le tl w rb ran Kf b h) (x i y j v : Int32) : ∃ r h1 h2, m_Home_shift 0 x i y j v h = some (r, h1) ∧ m_Model_shift 670 x i y j v h1 = some (r, h2) ∧ BAS n X Le tl w rb ran Kf b h2 ∧ ∀ k, 21 ≤ k → k < 643 → h2 k = h k := by
  obtain ⟨⟨h0, m, hm, m1, m4, m6, m19, m27⟩, cT, cH, ⟨w10, cK⟩, cR, cS, cC, cA, cX⟩ := id B
  have n1 := nI1_0
  have n0 := nI0_0
  have zb := zN_big
  obtain ⟨r11, rS⟩ := cSh_at cX h0
  have i1 := isShelf_ix x h
  have i2 := isShelf_M x h
  have i3 := isShelf_ix y h
  have i4 := fun h => isShelf_M y h
  rcases ix_cases x 6 (by omega) with ⟨z, -⟩ | ⟨s, hs, rfl, z⟩
  · rw [z, if_pos rfl] at i1 i2
    exact ⟨-1, h, h, by simp only [m_Home_shift, i1, bind_some', n0, if_true], by simp only [m_Model_shift, i2, bind_some', n0, if_true], B, fun k _ _ => rfl⟩
  have i2 := fun h => isShelf_M (nI s) h
  rw [z] at i1 i2
  have e0 : ((some s : Option Nat) = none) = False := by simp
  simp only [e0, if_false] at i1 i2
  rcases ix_cases y 6 (by omega) with ⟨z2, -⟩ | ⟨e, he, rfl, z2⟩
  · have i4' := i4 h
    rw [z2, if_pos rfl] at i3 i4'
    exact ⟨-1, h, h, by simp only [m_Home_shift, i1, bind_some', n1, if_false, i3, n0, if_true], by simp only [m_Model_shift, i2, bind_some', n1, if_false, i4', n0, if_true], B, fun k _ _ => rfl⟩
  rw [z2] at i3 i4
  have e0e : ((some e : Option Nat) = none) = False := by simp
  simp only [e0e, if_false] at i3 i4
  obtain ⟨⟨g, q1, q2⟩, sf, mf, it, q3, q4, q5, ⟨ca, q6⟩, q7⟩ := id cX
  obtain ⟨len, so, wy, el, k1, k2, k3, k4⟩ := q7 s hs
  obtain ⟨len', so', wy', el', k1', k2', k3', k4'⟩ := q7 e he
  have cv := fun {α : Type} (o : Option α) => SHE_cv k2 o
  have cv' := fun {α : Type} (o : Option α) => SHE_cv k2' o
  have a1 := sh_empty k2
  have a1' := sh_empty k2'
  have f29 : zrR h 670 7 29 = some 689 := (MO_ref _ m hm).2.2.2.2.2.2.2.2.2.2.2.2.2.2.2.2.2.2.1
  have f30 : zrR h 670 7 30 = some 690 := (MO_ref _ m hm).2.2.2.2.2.2.2.2.2.2.2.2.2.2.2.2.2.2.2.1
  have l1 : zaI h 689 (nI s) = some (sf s) := zA32_of q3 hs (by omega)
  have l1' : zaI h 689 (nI e) = some (sf e) := zA32_of q3 he (by omega)
  have l2 : zaI h 690 (nI s) = some (mf s) := zA32_of q4 hs (by omega)
  have l2' : zaI h 690 (nI e) = some (mf e) := zA32_of q4 he (by omega)
  -- the source
  rcases k1 with ⟨b1, b2, b3, b4, b5⟩ | ⟨u, hu, b1, b2, b3, b4, b5⟩ | ⟨t, l, ht, hl, b1, b2, b3, b4, b5⟩
  · rw [if_pos ⟨b3, b2⟩] at a1
    have c : (sf s < 0) = True := by rw [b4]; exact eq_true (by decide)
    exact ⟨-11, h, h, by simp only [m_Home_shift, i1, bind_some', n1, if_false, i3, r11, rS s hs, rS e he, cv, a1], by simp only [m_Model_shift, i2, bind_some', n1, if_false, i4, f29, l1, c, if_true], B, fun k _ _ => rfl⟩
  · have cy : (wy = -1) = False := by rw [b3]; exact nI_eqm1 (by omega)
    rw [if_neg (fun q => by rw [cy] at q; exact q.1)] at a1
    have a2 := sh_isRow k2
    rw [if_pos b2] at a2
    have c : (sf s < 0) = False := by rw [b4]; exact nI_lt0 (by omega)
    have c2 : (sf s < nI 10) = True := by rw [b4]; exact eq_true ((nI_ltI (by omega) (by omega)).mpr (by omega))
    rcases k1' with ⟨d1, d2, d3, d4, d5⟩ | ⟨u', hu', d1, d2, d3, d4, d5⟩ | ⟨t', l', ht', hl', d1, d2, d3, d4, d5⟩
    · rw [if_pos ⟨d3, d2⟩] at a1'
      have c' : ((0 : Int32) ≤ sf e) = False := by rw [d4]; exact eq_false (by decide)
      exact ⟨-11, h, h, by simp only [m_Home_shift, i1, bind_some', n1, if_false, i3, r11, rS s hs, rS e he, cv, a1, n0, if_true, cv', a1'], by simp only [m_Model_shift, i2, bind_some', n1, if_false, i4, f29, l1, c, l1', c'], B, fun k _ _ => rfl⟩
    · have cy' : (wy' = -1) = False := by rw [d3]; exact nI_eqm1 (by omega)
      rw [if_neg (fun q => by rw [cy'] at q; exact q.1)] at a1'
      have c' : ((0 : Int32) ≤ sf e) = True := by rw [d4]; exact nI_0le (by omega)
      exact ⟨-12, h, h, by simp only [m_Home_shift, i1, bind_some', n1, if_false, i3, r11, rS s hs, rS e he, cv, a1, n0, if_true, cv', a1', a2], by simp only [m_Model_shift, i2, bind_some', n1, if_false, i4, f29, l1, c, l1', c', if_true, c2], B, fun k _ _ => rfl⟩
    · have cy' : (so' = -1) = False := by rw [d2]; exact nI_eqm1 (by omega)
      rw [if_neg (fun q => by rw [cy'] at q; exact q.2)] at a1'
      have c' : ((0 : Int32) ≤ sf e) = True := by rw [d4]; exact nI_0le (by omega)
      exact ⟨-12, h, h, by simp only [m_Home_shift, i1, bind_some', n1, if_false, i3, r11, rS s hs, rS e he, cv, a1, n0, if_true, cv', a1', a2], by simp only [m_Model_shift, i2, bind_some', n1, if_false, i4, f29, l1, c, l1', c', if_true, c2], B, fun k _ _ => rfl⟩
  · subst b1
    have cy : (so = -1) = False := by rw [b2]; exact nI_eqm1 (by omega)
    rw [if_neg (fun q => by rw [cy] at q; exact q.2)] at a1
    have a2 := sh_isRow k2
    rw [if_neg (fun q => by rw [cy] at q; exact q)] at a2
    have c : (sf s < 0) = False := by rw [b4]; exact nI_lt0 (by omega)
    have c2 : (sf s < nI 10) = False := by rw [b4]; exact eq_false (fun q => by have := (nI_ltI (by omega) (by omega)).mp q; omega)
    have a3 : m_Shelf_sort (658 + 2 * s) h = some so := by
      have r2 := (SHE_rd k2).2.2.2.1
      simp only [m_Shelf_sort, r2, bind_some']
    have a4 := sh_isRowOf k2' so
    rcases k1' with ⟨d1, d2, d3, d4, d5⟩ | ⟨u', hu', d1, d2, d3, d4, d5⟩ | ⟨t', l', ht', hl', d1, d2, d3, d4, d5⟩
    · rw [if_pos ⟨d3, d2⟩] at a1'
      have c' : ((0 : Int32) ≤ sf e) = False := by rw [d4]; exact eq_false (by decide)
      exact ⟨-11, h, h, by simp only [m_Home_shift, i1, bind_some', n1, if_false, i3, r11, rS s hs, rS e he, cv, a1, n0, if_true, cv', a1'], by simp only [m_Model_shift, i2, bind_some', n1, if_false, i4, f29, l1, c, l1', c'], B, fun k _ _ => rfl⟩
    · have cy' : (wy' = -1) = False := by rw [d3]; exact nI_eqm1 (by omega)
      rw [if_neg (fun q => by rw [cy'] at q; exact q.1)] at a1'
      have c' : ((0 : Int32) ≤ sf e) = True := by rw [d4]; exact nI_0le (by omega)
      have cz : (so' = so) = False := by rw [d2, b2]; exact eq_false (fun q => by have := nI_eqm1 (a := t) (by omega); rw [← this]; exact q.symm)
      rw [if_neg (fun q => by rw [cz] at q; exact q)] at a4
      have cw : (sf s = sf e) = False := by rw [b4, d4]; exact eq_false (fun q => by have := (nI_eq (by omega) (by omega)).mp q; omega)
      exact ⟨-12, h, h, by simp only [m_Home_shift, i1, bind_some', n1, if_false, i3, r11, rS s hs, rS e he, cv, a1, n0, if_true, cv', a1', a2, a3, a4], by simp only [m_Model_shift, i2, bind_some', n1, if_false, i4, f29, l1, c, l1', c', if_true, c2, cw], B, fun k _ _ => rfl⟩
    · subst d1
      have cy' : (so' = -1) = False := by rw [d2]; exact nI_eqm1 (by omega)
      rw [if_neg (fun q => by rw [cy'] at q; exact q.2)] at a1'
      have c' : ((0 : Int32) ≤ sf e) = True := by rw [d4]; exact nI_0le (by omega)
      by_cases tt : t' = t
      · subst tt
        rw [if_pos (d2.trans b2.symm)] at a4
        have cw : (sf s = sf e) = True := by rw [b4, d4]; simp
        have p1 := sh_places hl k2 i v
        have p2 := sh_places hl' k2' j v
        by_cases g1 : v < 0 ∨ i < 0 ∨ nI l - v < i
        · rw [if_pos g1] at p1
          refine ⟨-13, h, h, by simp only [m_Home_shift, i1, bind_some', n1, if_false, i3, r11, rS s hs, rS e he, cv, a1, n0, if_true, cv', a1', a2, a3, a4, p1], ?_, B, fun k _ _ => rfl⟩
          by_cases v0 : v < 0
          · simp only [m_Model_shift, i2, bind_some', n1, if_false, i4, f29, l1, c, l1', c', if_true, c2, cw, eq_true v0]
          · by_cases i0 : i < 0
            · simp only [m_Model_shift, i2, bind_some', n1, if_false, i4, f29, l1, c, l1', c', if_true, c2, cw, eq_false v0, eq_true i0]
            · have g3 : nI l - v < i := (g1.resolve_left v0).resolve_left i0
              by_cases j0 : j < 0
              · simp only [m_Model_shift, i2, bind_some', n1, if_false, i4, f29, l1, c, l1', c', if_true, c2, cw, eq_false v0, eq_false i0, eq_true j0]
              · simp only [m_Model_shift, i2, bind_some', n1, if_false, i4, f29, l1, c, l1', c', if_true, c2, cw, eq_false v0, eq_false i0, eq_false j0, f30, l2, b5, eq_true g3]
        · rw [if_neg g1] at p1
          have v0 : (v < 0) = False := eq_false (fun q => g1 (Or.inl q))
          have i0 : (i < 0) = False := eq_false (fun q => g1 (Or.inr (Or.inl q)))
          have g3 : (nI l - v < i) = False := eq_false (fun q => g1 (Or.inr (Or.inr q)))
          by_cases g2 : v < 0 ∨ j < 0 ∨ nI l' - v < j
          · rw [if_pos g2] at p2
            refine ⟨-13, h, h, by simp only [m_Home_shift, i1, bind_some', n1, if_false, i3, r11, rS s hs, rS e he, cv, a1, n0, if_true, cv', a1', a2, a3, a4, p1, p2], ?_, B, fun k _ _ => rfl⟩
            by_cases j0 : j < 0
            · simp only [m_Model_shift, i2, bind_some', n1, if_false, i4, f29, l1, c, l1', c', if_true, c2, cw, v0, i0, eq_true j0]
            · have g4 : (j ≤ nI l' - v) = False := eq_false (Int32.not_le.mpr ((g2.resolve_left (fun q => by rw [v0] at q; exact q)).resolve_left j0))
              simp only [m_Model_shift, i2, bind_some', n1, if_false, i4, f29, l1, c, l1', c', if_true, c2, cw, v0, i0, eq_false j0, f30, l2, b5, g3, l2', d5, g4]
          · rw [if_neg g2] at p2
            have j0 : (j < 0) = False := eq_false (fun q => g2 (Or.inr (Or.inl q)))
            have g4 : (j ≤ nI l' - v) = True := eq_true (Int32.not_lt.mp (fun q => g2 (Or.inr (Or.inr q))))
            obtain ⟨vn, iN, rfl, rfl, bi⟩ := places_N hl g1
            obtain ⟨vn2, jN, ev, rfl, bj⟩ := places_N hl' g2
            have r0 := (SHE_rd k2).2.1
            have r0' := (SHE_rd k2').2.1
            have evn : vn2 = vn := by
              have z1 : vn < 2 ^ 31 := by omega
              have z2 : vn2 < 2 ^ 31 := by omega
              exact ((nI_eq z1 z2).mp ev).symm
            subst evn
            have cp : zcpJ h (659 + 2 * s) (nI iN) (659 + 2 * e) (nI jN) (nI vn2) = some (zup h (659 + 2 * e) (zI64 60 (va_cpy el el' iN jN vn2))) := zcpJ_of k3 k3' (by omega) (by omega) (by omega) (by omega)
            have cpT : m_Shelf_copyTo (658 + 2 * s) (nI iN) (658 + 2 * e) (nI jN) (nI vn2) h = some (zup h (659 + 2 * e) (zI64 60 (va_cpy el el' iN jN vn2))) := by
              simp only [m_Shelf_copyTo, cv, p1, bind_some', n1, if_false, cv', p2, r0, r0', cp]
            have hm1 : (zup h (659 + 2 * e) (zI64 60 (va_cpy el el' iN jN vn2))) 670 = MO m := by rw [zup_ne (by omega)]; exact hm
            have o29 : zrR (zup h (659 + 2 * e) (zI64 60 (va_cpy el el' iN jN vn2))) 670 7 29 = some 689 := (MO_ref _ m hm1).2.2.2.2.2.2.2.2.2.2.2.2.2.2.2.2.2.2.1
            have o30 : zrR (zup h (659 + 2 * e) (zI64 60 (va_cpy el el' iN jN vn2))) 670 7 30 = some 690 := (MO_ref _ m hm1).2.2.2.2.2.2.2.2.2.2.2.2.2.2.2.2.2.2.2.1
            have ol1 : zaI (zup h (659 + 2 * e) (zI64 60 (va_cpy el el' iN jN vn2))) 689 (nI s) = some (sf s) := by rw [zaI, zA32_ne (by omega)]; exact l1
            have ol1' : zaI (zup h (659 + 2 * e) (zI64 60 (va_cpy el el' iN jN vn2))) 689 (nI e) = some (sf e) := by rw [zaI, zA32_ne (by omega)]; exact l1'
            have ol2 : zaI (zup h (659 + 2 * e) (zI64 60 (va_cpy el el' iN jN vn2))) 690 (nI s) = some (mf s) := by rw [zaI, zA32_ne (by omega)]; exact l2
            have ol2' : zaI (zup h (659 + 2 * e) (zI64 60 (va_cpy el el' iN jN vn2))) 690 (nI e) = some (mf e) := by rw [zaI, zA32_ne (by omega)]; exact l2'
            have lp := M_sh113 (h := zup h (659 + 2 * e) (zI64 60 (va_cpy el el' iN jN vn2))) hm1 hs he (i := iN) (j := jN) (v := vn2) (by omega) (by omega) (it := it) (by rw [zup_ne (by omega)]; exact q5) vn2 0 zN ca (by omega) (by omega) (by omega)
            rw [zup_self (h := zup h (659 + 2 * e) (zI64 60 (va_cpy el el' iN jN vn2))) (a := 692) (e := zI64 60 ca) (by rw [zup_ne (by omega)]; exact q6)] at lp
            have eC : m_Home_shift 0 (nI s) (nI iN) (nI e) (nI jN) (nI vn2) h = some (nI vn2, zup h (659 + 2 * e) (zI64 60 (va_cpy el el' iN jN vn2))) := by simp only [m_Home_shift, i1, bind_some', n1, if_false, i3, r11, rS s hs, rS e he, cv, a1, n0, if_true, cv', a1', a2, a3, a4, p1, p2, cpT]
            have eM : m_Model_shift 670 (nI s) (nI iN) (nI e) (nI jN) (nI vn2) (zup h (659 + 2 * e) (zI64 60 (va_cpy el el' iN jN vn2))) = _ := Eq.trans (by simp only [m_Model_shift, i2, bind_some', n1, if_false, i4, o29, ol1, c, ol1', c', if_true, c2, cw, v0, i0, j0, o30, ol2, b5, g3, ol2', d5, g4]) lp
            refine ⟨nI vn2, _, _, eC, eM, ?_, fun k _ _ => by rw [zup_ne (by omega), zup_ne (by omega), zup_ne (by omega)]⟩
            have q : ∀ (E1 E2 E3 : zE) (k : Nat), k ≠ 659 + 2 * e → k ≠ 691 → k ≠ 692 → zup (zup (zup h (659 + 2 * e) E1) 692 E2) 691 E3 k = h k := fun E1 E2 E3 k a b c => by rw [zup_ne b, zup_ne c, zup_ne a]
            refine ⟨⟨by rw [q _ _ _ 0 (by omega) (by omega) (by omega)]; exact h0, m, by rw [q _ _ _ 670 (by omega) (by omega) (by omega)]; exact hm, m1, m4, m6, m19, m27⟩, cT.fr fun k y => q _ _ _ k (by omega) (by omega) (by omega), cH.fr fun k y => q _ _ _ k (by omega) (by omega) (by omega), cKinds.fr ⟨w10, cK⟩ fun k y => q _ _ _ k (by omega) (by omega) (by omega), cR.fr fun k y => q _ _ _ k (by omega) (by omega) (by omega), cS.fr fun k y => q _ _ _ k (by omega) (by omega) (by omega), cC.fr fun k y => q _ _ _ k (by omega) (by omega) (by omega), cA.fr fun k y => q _ _ _ k (by omega) (by omega) (by omega), ⟨⟨g, by rw [q _ _ _ 645 (by omega) (by omega) (by omega)]; exact q1, q2⟩, sf, mf, _, by rw [q _ _ _ 689 (by omega) (by omega) (by omega)]; exact q3, by rw [q _ _ _ 690 (by omega) (by omega) (by omega)]; exact q4, zup_eq _ _ _, ⟨_, by rw [zup_ne (by omega), zup_eq]⟩, fun u hu => ?_⟩⟩
            by_cases eu : u = e
            · subst eu
              refine ⟨nI l', so', wy', va_cpy el el' iN jN vn2, Or.inr (Or.inr ⟨t', l', ht', hl', rfl, d2, d3, d4, d5⟩), by rw [q _ _ _ (658 + 2 * u) (by omega) (by omega) (by omega)]; exact k2', by rw [zup_ne (by omega), zup_ne (by omega), zup_eq], fun k hk => ?_⟩
              unfold va_cpy
              dsimp only
              by_cases z3 : jN ≤ k ∧ k < jN + vn2
              · rw [if_pos z3, if_pos (by omega), if_pos (by omega), k4 _ (by omega)]
                exact congrArg it (by omega)
              · rw [if_neg z3, if_neg (by omega)]
                exact k4' k hk
            · obtain ⟨len2, so2, wy2, el2, f1, f2, f3, f4⟩ := q7 u hu
              refine ⟨len2, so2, wy2, el2, f1, by rw [q _ _ _ (658 + 2 * u) (by omega) (by omega) (by omega)]; exact f2, by rw [q _ _ _ (659 + 2 * u) (by omega) (by omega) (by omega)]; exact f3, fun k hk => ?_⟩
              dsimp only
              rw [if_neg (by omega)]
              exact f4 k hk
      · have cz : ¬ so' = so := by
          rw [d2, b2]
          exact fun q => tt ((nI_eq (by omega) (by omega)).mp q)
        rw [if_neg cz] at a4
        have cw : (sf s = sf e) = False := by rw [b4, d4]; exact eq_false (fun q => by have := (nI_eq (by omega) (by omega)).mp q; omega)
        exact ⟨-12, h, h, by simp only [m_Home_shift, i1, bind_some', n1, if_false, i3, r11, rS s hs, rS e he, cv, a1, n0, if_true, cv', a1', a2, a3, a4], by simp only [m_Model_shift, i2, bind_some', n1, if_false, i4, f29, l1, c, l1', c', if_true, c2, cw], B, fun k _ _ => rfl⟩
end SHIFT
