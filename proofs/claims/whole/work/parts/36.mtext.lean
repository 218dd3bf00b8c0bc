/-! THE MODEL'S TEXTS -/
section MTX
variable {h : zH} {n : Nat} {X : Nat → Nat → Nat} {Le : Nat → Nat} {T : Nat → Nat}
theorem M_wN {c a b : Nat} {lo hi : Int64} (hlo : lo = lN a) (hhi : hi = lN b) (hc : c < 100000) (ha : a < 100000) (hb : b < 100000) : m_Model_within (nI c).toInt64 lo hi h = some (if a ≤ c ∧ c ≤ b then nI 1 else nI 0) := by
  have e1 : (lg_cmp (lN c) (lN a) < 0) = (c < a) := propext ((lg_cmp_lt _ _).trans (lN_lt (by omega) (by omega)))
  have e2 : (0 < lg_cmp (lN c) (lN b)) = (b < c) := propext ((lg_cmp_gt _ _).trans (lN_lt (by omega) (by omega)))
  rw [hlo, hhi, nI_l (by omega)]
  by_cases x : c < a
  · rw [if_neg (by omega)]
    simp only [m_Model_within, e1, eq_true x, if_true]
  · by_cases y : b < c
    · rw [if_neg (by omega)]
      simp only [m_Model_within, e1, e2, eq_false x, eq_true y, if_true, if_false]
    · rw [if_pos (by omega)]
      simp only [m_Model_within, e1, e2, eq_false x, eq_false y, if_false]
theorem M_wX {x : Int32} {b : Nat} {hi : Int64} (hhi : hi = lN b) (hb : b < 100000) : m_Model_within x.toInt64 0 hi h = some (if ix x (b + 1) = none then nI 0 else nI 1) := by
  rcases ix_cases x (b + 1) (by omega) with ⟨z, q⟩ | ⟨k, hk, rfl, z⟩
  · rw [z, if_pos rfl]
    have t0 : x.toInt64.toInt = x.toInt := Int32.toInt_toInt64 x
    by_cases q0 : x < 0
    · have : lg_cmp x.toInt64 0 < 0 := (lg_cmp_lt _ _).mpr (by
        rw [Int64.lt_iff_toInt_lt, t0]
        exact Int32.lt_iff_toInt_lt.mp q0)
      simp only [m_Model_within, eq_true this, if_true]
    · obtain ⟨j, hj, rfl⟩ := nI_of q0
      have q1 : b + 1 ≤ j := by
        rcases q with q | q
        · exact absurd q q0
        · exact (nI_leI (by omega) hj).mp q
      have e1 : (lg_cmp (lN j) 0 < 0) = False := eq_false (fun w => by
        have := (lg_cmp_lt (lN j) (lN 0)).mp w
        have := (lN_lt hj (by omega)).mp this
        omega)
      have e2 : (0 < lg_cmp (lN j) (lN b)) = True := eq_true ((lg_cmp_gt _ _).mpr ((lN_lt (by omega) hj).mpr (by omega)))
      rw [hhi, nI_l hj]
      simp only [m_Model_within, e1, e2, if_true, if_false]
  · rw [z]
    have := M_wN (h := h) (c := k) (a := 0) (b := b) (lo := 0) (hi := hi) rfl hhi (by omega) (by omega) hb
    rw [this, if_pos (by omega)]
    rfl
theorem M_isOther {c own : Nat} (hc : c < 256) (ho : own < 6) : m_Model_isOther (nI c) (nI own) h = some (if ltr own c then nI 1 else nI 0) := by
  have w := M_wN (h := h) (c := c) (a := 97) (b := 102) (lo := 97) (hi := 102) rfl rfl (by omega) (by omega) (by omega)
  have n1 := nI1_0
  have n0 := nI0_0
  by_cases a : 97 ≤ c ∧ c ≤ 102
  · have e := nI_subn a.1
    rw [if_pos a] at w
    by_cases b : c - 97 = own
    · rw [if_neg (fun q => q.2.2 b)]
      simp (disch := omega) only [m_Model_isOther, w, bind_some', n1, if_false, e, nI_eq_iff, eq_true b, if_true]
    · rw [if_pos ⟨a.1, a.2, b⟩]
      simp (disch := omega) only [m_Model_isOther, w, bind_some', n1, if_false, e, nI_eq_iff, eq_false b]
  · rw [if_neg a] at w
    rw [if_neg (fun q => a ⟨q.1, q.2.1⟩)]
    simp (disch := omega) only [m_Model_isOther, w, bind_some', n0, if_true]
theorem M_fault_l {own len : Nat} {m Tt : Nat → Int32} (hm : h 670 = MO m) (h1 : m 1 = nI len) (hT : h 671 = zI32 60 Tt) (hb : ∀ k, k < 60 → Tt k = nI (T k) ∧ T k < 256) (hl : len ≤ 60) (ho : own < 6) : ∀ (d p f : Nat), len - p ≤ d → p ≤ len → d < f → TM T p = 0 → zloop (g_Model_faultOf_2 670 (nI own) h) f (nI p) = some (match flt T own (len - p) p with | none => -1 | some q => nI q) := by
  have r1 : zrI h 670 7 1 = some (nI len) := by rw [MO_rd h m (by unfold mosc; omega) hm, h1]
  have r0 : zrR h 670 7 0 = some 671 := (MO_ref h m hm).1
  have l0 : ∀ k, k < 60 → zaI h 671 (nI k) = some (nI (T k)) := fun k hk => by rw [zaI, zA32_of hT hk (by omega), (hb k hk).1]
  have n1 := nI1_0
  have n0 := nI0_0
  intro d
  induction d with
  | zero =>
    intro p f hd hp hf tm
    obtain ⟨f, rfl⟩ : ∃ k, f = k + 1 := ⟨f - 1, by omega⟩
    obtain rfl : p = len := by omega
    have e : flt T own (p - p) p = none := by
      rw [Nat.sub_self]
      exact if_pos tm
    rw [e]
    have c : (p ≤ p) = True := eq_true (Nat.le_refl _)
    show g_Model_faultOf_2 670 (nI own) h _ (nI p) = _
    simp (disch := omega) only [g_Model_faultOf_2, r1, bind_some', nI_le_iff, c, if_true]
  | succ d ih =>
    intro p f hd hp hf tm
    obtain ⟨f, rfl⟩ : ∃ k, f = k + 1 := ⟨f - 1, by omega⟩
    rcases Nat.eq_or_lt_of_le hp with rfl | hlt
    · have e : flt T own (p - p) p = none := by
        rw [Nat.sub_self]
        exact if_pos tm
      rw [e]
      have c : (p ≤ p) = True := eq_true (Nat.le_refl _)
      show g_Model_faultOf_2 670 (nI own) h _ (nI p) = _
      simp (disch := omega) only [g_Model_faultOf_2, r1, bind_some', nI_le_iff, c, if_true]
    · obtain ⟨e, he⟩ : ∃ e, len - p = e + 1 := ⟨len - p - 1, by omega⟩
      have c : (len ≤ p) = False := eq_false (by omega)
      have t256 := (hb p (by omega)).2
      have w := M_wN (h := h) (c := T p) (a := 50) (b := 57) (lo := 50) (hi := 57) rfl rfl (by omega) (by omega) (by omega)
      have ef : flt T own (len - p) p = if okc T own p then flt T own e (p + 1) else some p := by rw [he]; rfl
      rw [ef]
      show g_Model_faultOf_2 670 (nI own) h (zloop _ f) (nI p) = _
      by_cases dg : isD (T p)
      · rw [if_pos dg] at w
        have tm1 : TM T (p + 1) = T p - 48 := if_pos dg
        rw [if_pos (show okc T own p from Or.inr ⟨Or.inr dg, tm⟩)]
        by_cases z : p + 1 = len
        · have e0 : e = 0 := by omega
          have ef2 : flt T own e (p + 1) = some (p + 1) := by
            rw [e0]
            exact if_neg (by rw [tm1]; obtain ⟨x, y⟩ := dg; omega)
          rw [ef2]
          simp (disch := omega) only [g_Model_faultOf_2, r1, bind_some', nI_le_iff, c, if_false, r0, l0, w, n1, nI_add, nI_eq_iff, eq_true z, if_true]
        · obtain ⟨e', rfl⟩ : ∃ k, e = k + 1 := ⟨e - 1, by omega⟩
          have ef2 : flt T own (e' + 1) (p + 1) = if okc T own (p + 1) then flt T own e' (p + 1 + 1) else some (p + 1) := rfl
          rw [ef2]
          have io := M_isOther (h := h) (c := T (p + 1)) (own := own) (hb (p + 1) (by omega)).2 ho
          by_cases lt : ltr own (T (p + 1))
          · rw [if_pos lt] at io
            rw [if_pos (show okc T own (p + 1) from Or.inl lt)]
            have := ih (p + 1 + 1) f (by omega) (by omega) (by omega) (if_neg (fun w => by obtain ⟨x, y⟩ := w; obtain ⟨x2, -⟩ := lt; omega))
            rw [show len - (p + 1 + 1) = e' by omega] at this
            rw [← this]
            simp (disch := omega) only [g_Model_faultOf_2, r1, bind_some', nI_le_iff, c, if_false, r0, l0, w, n1, nI_add, nI_eq_iff, eq_false z, io]
          · rw [if_neg lt] at io
            rw [if_neg (show ¬ okc T own (p + 1) from fun w => w.elim lt (fun w => by
              have := w.2
              rw [tm1] at this
              obtain ⟨x, y⟩ := dg
              omega))]
            simp (disch := omega) only [g_Model_faultOf_2, r1, bind_some', nI_le_iff, c, if_false, r0, l0, w, n1, nI_add, nI_eq_iff, eq_false z, io, n0, if_true]
      · rw [if_neg dg] at w
        have tm1 : TM T (p + 1) = 0 := if_neg dg
        have nxt := ih (p + 1) f (by omega) (by omega) (by omega) tm1
        rw [show len - (p + 1) = e by omega] at nxt
        by_cases s : T p = 59
        · rw [if_pos (show okc T own p from Or.inr ⟨Or.inl s, tm⟩), ← nxt]
          simp (disch := omega) only [g_Model_faultOf_2, r1, bind_some', nI_le_iff, c, if_false, r0, l0, w, n0, if_true, nI_eq_iff, eq_true s, nI_add]
        · have io := M_isOther (h := h) (c := T p) (own := own) t256 ho
          by_cases lt : ltr own (T p)
          · rw [if_pos lt] at io
            rw [if_pos (show okc T own p from Or.inl lt), ← nxt]
            simp (disch := omega) only [g_Model_faultOf_2, r1, bind_some', nI_le_iff, c, if_false, r0, l0, w, n0, if_true, nI_eq_iff, eq_false s, io, n1, nI_add]
          · rw [if_neg lt] at io
            rw [if_neg (show ¬ okc T own p from fun w => w.elim lt (fun w => w.1.elim s dg))]
            simp (disch := omega) only [g_Model_faultOf_2, r1, bind_some', nI_le_iff, c, if_false, r0, l0, w, n0, if_true, nI_eq_iff, eq_false s, io]
theorem M_fault {own len : Nat} {m Tt : Nat → Int32} (hm : h 670 = MO m) (h1 : m 1 = nI len) (hT : h 671 = zI32 60 Tt) (hb : ∀ k, k < 60 → Tt k = nI (T k) ∧ T k < 256) (hl : len ≤ 60) (ho : own < 6) : m_Model_faultOf 670 (nI own) h = some (match flt T own len 0 with | none => -1 | some q => nI q) := by
  have z := zN_big
  exact M_fault_l hm h1 hT hb hl ho len 0 zN (by omega) (by omega) (by omega) rfl
theorem GO_stay {l : Int32} {i x j : Nat} (e : GO T l i j = some x) {k : Nat} (q : j ≤ k) : GO T l i k = some x := by
  induction q with
  | refl => exact e
  | step _ ih => exact GO_s1 ih
theorem M_lines_l {hh len : Nat} {m Tx Tm : Nat → Int32} (hm : h 670 = MO m) (h2 : h 672 = zI32 360 Tx) (h3 : h 673 = zI32 6 Tm) (q6 : hh < 6) (hl : len ≤ 60) (eL : Tm hh = nI len) (eX : ∀ k, k < len → Tx (60 * hh + k) = nI (T k)) (t256 : ∀ k, k < len → T k < 256) : ∀ (d k f : Nat), len - k = d → k ≤ len → d < f → zloop (g_Model_lines_4 670 (nI hh) h) f (nI (LN T k + 1), nI k) = some (nI (LN T len + 1)) := by
  have r2 : zrR h 670 7 2 = some 672 := (MO_ref h m hm).2.1
  have r3 : zrR h 670 7 3 = some 673 := (MO_ref h m hm).2.2.1
  have l3 : zaI h 673 (nI hh) = some (nI len) := by rw [zaI, zA32_of h3 q6 (by omega), eL]
  have l2 : ∀ k, k < len → zaI h 672 (nI (60 * hh + k)) = some (nI (T k)) := fun k hk => by rw [zaI, zA32_of h2 (by omega) (by omega), eX k hk]
  intro d
  induction d with
  | zero =>
    intro k f hd hk hf
    obtain ⟨f, rfl⟩ : ∃ k, f = k + 1 := ⟨f - 1, by omega⟩
    obtain rfl : k = len := by omega
    have c : (k ≤ k) = True := eq_true (Nat.le_refl _)
    show g_Model_lines_4 670 (nI hh) h _ (nI (LN T k + 1), nI k) = _
    simp (disch := omega) only [g_Model_lines_4, r3, bind_some', l3, nI_le_iff, c, if_true]
  | succ d ih =>
    intro k f hd hk hf
    obtain ⟨f, rfl⟩ : ∃ k, f = k + 1 := ⟨f - 1, by omega⟩
    have c : (len ≤ k) = False := eq_false (by omega)
    have t := t256 k (by omega)
    have nxt := ih (k + 1) f (by omega) (by omega) (by omega)
    show g_Model_lines_4 670 (nI hh) h (zloop _ f) (nI (LN T k + 1), nI k) = _
    rw [← nxt]
    by_cases s : T k = 59
    · have e : LN T (k + 1) = LN T k + 1 := if_pos s
      rw [e]
      simp (disch := omega) only [g_Model_lines_4, r3, bind_some', l3, nI_le_iff, c, if_false, r2, pk_mul, nI_add, l2, nI_eq_iff, eq_true s, if_true]
    · have e : LN T (k + 1) = LN T k := if_neg s
      rw [e]
      simp (disch := omega) only [g_Model_lines_4, r3, bind_some', l3, nI_le_iff, c, if_false, r2, pk_mul, nI_add, l2, nI_eq_iff, eq_false s]
theorem M_inL_l {hh len own : Nat} {m Tx Tm : Nat → Int32} (hm : h 670 = MO m) (h2 : h 672 = zI32 360 Tx) (h3 : h 673 = zI32 6 Tm) (q6 : hh < 6) (hl : len ≤ 60) (eL : Tm hh = nI len) (eX : ∀ k, k < len → Tx (60 * hh + k) = nI (T k)) (t256 : ∀ k, k < len → T k < 256) (hv : ∀ j, j < len → okc T own j) (l : Int32) : ∀ (d k f : Nat), len - k = d → k ≤ len → d < f →
    (∀ i, i < 100000 → GO T l i k = none → zloop (g_Model_inLine_15 670 (nI hh) l (nI i) h) f (nI (LN T k), nI (WC T l k), nI (ML T k), nI k) = some (match GO T l i len with | some x => nI x | none => -1)) ∧ zloop (g_Model_inLine_15 670 (nI hh) l (-1) h) f (nI (LN T k), nI (WC T l k), nI (ML T k), nI k) = some (nI (WC T l len)) := by
  have r2 : zrR h 670 7 2 = some 672 := (MO_ref h m hm).2.1
  have r3 : zrR h 670 7 3 = some 673 := (MO_ref h m hm).2.2.1
  have l3 : zaI h 673 (nI hh) = some (nI len) := by rw [zaI, zA32_of h3 q6 (by omega), eL]
  have l2 : ∀ k, k < len → zaI h 672 (nI (60 * hh + k)) = some (nI (T k)) := fun k hk => by rw [zaI, zA32_of h2 (by omega) (by omega), eX k hk]
  have n1 := nI1_0
  have n0 := nI0_0
  have m1 : ((0 : Int32) ≤ -1) = False := eq_false (by decide)
  have wcb : ∀ k, k ≤ len → WC T l k ≤ 9 * k := by
    intro k
    induction k with
    | zero => intro _; exact Nat.le_refl _
    | succ k ih =>
      intro hk
      have := ih (by omega)
      have ml := (ML_pos (T := T) k).2
      rw [WC_s]
      split
      · omega
      · split <;> omega
  intro d
  induction d with
  | zero =>
    intro k f hd hk hf
    obtain ⟨f, rfl⟩ : ∃ k, f = k + 1 := ⟨f - 1, by omega⟩
    obtain rfl : k = len := by omega
    have c : (k ≤ k) = True := eq_true (Nat.le_refl _)
    refine ⟨fun i hi hg => ?_, ?_⟩
    · rw [hg]
      have p : ((0 : Int32) ≤ nI i) = True := eq_true (nI_pos' (by omega))
      show g_Model_inLine_15 670 (nI hh) l (nI i) h _ (nI (LN T k), nI (WC T l k), nI (ML T k), nI k) = _
      simp (disch := omega) only [g_Model_inLine_15, r3, bind_some', l3, nI_le_iff, c, if_true, p]
    · show g_Model_inLine_15 670 (nI hh) l (-1) h _ (nI (LN T k), nI (WC T l k), nI (ML T k), nI k) = _
      simp (disch := omega) only [g_Model_inLine_15, r3, bind_some', l3, nI_le_iff, c, if_true, m1, if_false]
  | succ d ih =>
    intro k f hd hk hf
    obtain ⟨f, rfl⟩ : ∃ k, f = k + 1 := ⟨f - 1, by omega⟩
    have c : (len ≤ k) = False := eq_false (by omega)
    have t := t256 k (by omega)
    have v := hv k (by omega)
    have ml := ML_pos (T := T) k
    have wb := wcb k (by omega)
    obtain ⟨na, nb⟩ := ih (k + 1) f (by omega) (by omega) (by omega)
    have w := M_wN (h := h) (c := T k) (a := 50) (b := 57) (lo := 50) (hi := 57) rfl rfl (by omega) (by omega) (by omega)
    by_cases s : T k = 59
    · have e : LN T (k + 1) = LN T k + 1 := if_pos s
      have e2 : WC T l (k + 1) = WC T l k := if_pos (Or.inl s)
      have tm : TM T k = 0 := by
        rcases v with v | v
        · obtain ⟨x, y, -⟩ := v; omega
        · exact v.2
      have tm1 : TM T (k + 1) = 0 := if_neg (fun w => by obtain ⟨x, y⟩ := w; omega)
      have e3 : ML T (k + 1) = ML T k := by unfold ML; rw [tm, tm1]
      rw [e, e2, e3] at na nb
      refine ⟨fun i hi hg => ?_, ?_⟩
      · rw [← na i hi (by rw [GO_s0 hg]; exact if_neg (fun w => w.1 (Or.inl s)))]
        show g_Model_inLine_15 670 (nI hh) l (nI i) h (zloop _ f) (nI (LN T k), nI (WC T l k), nI (ML T k), nI k) = _
        simp (disch := omega) only [g_Model_inLine_15, r3, bind_some', l3, nI_le_iff, c, if_false, r2, pk_mul, nI_add, l2, nI_eq_iff, eq_true s, if_true]
      · rw [← nb]
        show g_Model_inLine_15 670 (nI hh) l (-1) h (zloop _ f) (nI (LN T k), nI (WC T l k), nI (ML T k), nI k) = _
        simp (disch := omega) only [g_Model_inLine_15, r3, bind_some', l3, nI_le_iff, c, if_false, r2, pk_mul, nI_add, l2, nI_eq_iff, eq_true s, if_true]
    · have e : LN T (k + 1) = LN T k := if_neg s
      by_cases dg : isD (T k)
      · rw [if_pos dg] at w
        have e2 : WC T l (k + 1) = WC T l k := if_pos (Or.inr dg)
        have tm1 : TM T (k + 1) = T k - 48 := if_pos dg
        have e3 : ML T (k + 1) = T k - 48 := by
          unfold ML
          rw [tm1, if_neg (by obtain ⟨x, y⟩ := dg; omega)]
        have es : nI (T k) - nI 48 = nI (T k - 48) := nI_subn (by obtain ⟨x, y⟩ := dg; omega)
        rw [e, e2, e3] at na nb
        refine ⟨fun i hi hg => ?_, ?_⟩
        · rw [← na i hi (by rw [GO_s0 hg]; exact if_neg (fun w => w.1 (Or.inr dg)))]
          show g_Model_inLine_15 670 (nI hh) l (nI i) h (zloop _ f) (nI (LN T k), nI (WC T l k), nI (ML T k), nI k) = _
          simp (disch := omega) only [g_Model_inLine_15, r3, bind_some', l3, nI_le_iff, c, if_false, r2, pk_mul, nI_add, l2, nI_eq_iff, eq_false s, w, n1, es]
        · rw [← nb]
          show g_Model_inLine_15 670 (nI hh) l (-1) h (zloop _ f) (nI (LN T k), nI (WC T l k), nI (ML T k), nI k) = _
          simp (disch := omega) only [g_Model_inLine_15, r3, bind_some', l3, nI_le_iff, c, if_false, r2, pk_mul, nI_add, l2, nI_eq_iff, eq_false s, w, n1, es]
      · rw [if_neg dg] at w
        have hn : ¬ nL (T k) := fun w => w.elim s dg
        have tm1 : TM T (k + 1) = 0 := if_neg dg
        have e3 : ML T (k + 1) = 1 := if_pos tm1
        have l97 : 97 ≤ T k := by
          rcases v with v | v
          · exact v.1
          · exact absurd v.1 hn
        have es : nI (T k) - nI 97 = nI (T k - 97) := nI_subn l97
        rw [e, e3] at na nb
        by_cases a : nI (LN T k) = l
        · have e2 : WC T l (k + 1) = WC T l k + ML T k := by rw [WC_s, if_neg hn, if_pos a]
          rw [e2] at na nb
          refine ⟨fun i hi hg => ?_, ?_⟩
          · have hlt : ¬ i < WC T l k := fun w => by
              have := (GO_lt k).mpr w
              rw [hg] at this
              cases this
            have c1 : (i < WC T l k) = False := eq_false hlt
            show g_Model_inLine_15 670 (nI hh) l (nI i) h (zloop _ f) (nI (LN T k), nI (WC T l k), nI (ML T k), nI k) = _
            by_cases b : WC T l k + ML T k ≤ i
            · rw [← na i hi (by rw [GO_s0 hg]; exact if_neg (fun w => by omega))]
              simp (disch := omega) only [g_Model_inLine_15, r3, bind_some', l3, nI_le_iff, c, if_false, r2, pk_mul, nI_add, l2, nI_eq_iff, eq_false s, w, n0, if_true, eq_true a, nI_lt_iff, c1, eq_true b]
            · have g1 : GO T l i (k + 1) = some (T k - 97) := by
                rw [GO_s0 hg]
                exact if_pos ⟨hn, a, by omega, by omega⟩
              rw [GO_stay g1 (by omega : k + 1 ≤ len)]
              simp (disch := omega) only [g_Model_inLine_15, r3, bind_some', l3, nI_le_iff, c, if_false, r2, pk_mul, nI_add, l2, nI_eq_iff, eq_false s, w, n0, if_true, eq_true a, nI_lt_iff, c1, eq_false b, es]
          · rw [← nb]
            have c1 : ((-1 : Int32) < nI (WC T l k)) = True := eq_true (Int32.lt_of_lt_of_le (by decide : (-1 : Int32) < 0) (nI_pos' (by omega)))
            show g_Model_inLine_15 670 (nI hh) l (-1) h (zloop _ f) (nI (LN T k), nI (WC T l k), nI (ML T k), nI k) = _
            simp (disch := omega) only [g_Model_inLine_15, r3, bind_some', l3, nI_le_iff, c, if_false, r2, pk_mul, nI_add, l2, nI_eq_iff, eq_false s, w, n0, if_true, eq_true a, c1]
        · have e2 : WC T l (k + 1) = WC T l k := by rw [WC_s, if_neg hn, if_neg a]
          rw [e2] at na nb
          refine ⟨fun i hi hg => ?_, ?_⟩
          · rw [← na i hi (by rw [GO_s0 hg]; exact if_neg (fun w => a w.2.1))]
            show g_Model_inLine_15 670 (nI hh) l (nI i) h (zloop _ f) (nI (LN T k), nI (WC T l k), nI (ML T k), nI k) = _
            simp (disch := omega) only [g_Model_inLine_15, r3, bind_some', l3, nI_le_iff, c, if_false, r2, pk_mul, nI_add, l2, nI_eq_iff, eq_false s, w, n0, if_true, eq_false a]
          · rw [← nb]
            show g_Model_inLine_15 670 (nI hh) l (-1) h (zloop _ f) (nI (LN T k), nI (WC T l k), nI (ML T k), nI k) = _
            simp (disch := omega) only [g_Model_inLine_15, r3, bind_some', l3, nI_le_iff, c, if_false, r2, pk_mul, nI_add, l2, nI_eq_iff, eq_false s, w, n0, if_true, eq_false a]
theorem MT_MU (n6 : n ≤ 6) (P : PG n X Le) (H : MT n X Le h) : MU n (nwF X Le) (goF X Le) h := by
  intro hh q
  obtain ⟨Tx, Tm, h2, h3, hH⟩ := H
  obtain ⟨eL, eX⟩ := hH hh q
  obtain ⟨p60, pv, ptm, pb⟩ := P hh q
  have z := zN_big
  have ln := LN_le (T := X hh) (Le hh)
  refine ⟨LN (X hh) (Le hh) + 1, by omega, by omega, fun l hl => ?_, fun h' m' hm e2 e3 => ⟨?_, fun l _ i hi => ?_, fun l _ _ => ?_⟩⟩
  · rcases nw_line (T := X hh) p60 l with ⟨j, hj, rfl⟩ | e
    · have := (nI_leI (by omega) (by omega)).mp hl
      omega
    · exact e
  · exact M_lines_l hm (e2.trans h2) (e3.trans h3) (by omega) p60 eL eX pb (Le hh) 0 zN rfl (by omega) (by omega)
  · have := (M_inL_l (own := hh) hm (e2.trans h2) (e3.trans h3) (by omega) p60 eL eX pb pv l (Le hh) 0 zN rfl (by omega) (by omega)).1 i (by omega) rfl
    refine Eq.trans this ?_
    by_cases c : i < nwF X Le hh l
    · obtain ⟨x, a, b, -⟩ := P.go q l i c
      rw [if_pos c, a, b]
    · rw [if_neg c]
      rcases e : GO (X hh) l i (Le hh) with _ | x
      · rfl
      · exact absurd ((GO_lt (Le hh)).mp (by rw [e]; rfl)) c
  · exact (M_inL_l (own := hh) hm (e2.trans h2) (e3.trans h3) (by omega) p60 eL eX pb pv l (Le hh) 0 zN rfl (by omega) (by omega)).2
end MTX
