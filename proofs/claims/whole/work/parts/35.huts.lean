/-! WHAT THE HUTS ANSWER, ON BOTH SIDES (X: their bytes, Le: how many) -/
def nwF (X : Nat → Nat → Nat) (Le : Nat → Nat) (hh : Nat) (l : Int32) : Nat := WC (X hh) l (Le hh)
def goF (X : Nat → Nat → Nat) (Le : Nat → Nat) (hh : Nat) (l : Int32) (i : Nat) : Nat := (GO (X hh) l i (Le hh)).getD 0
/-- programs without fault -/
def PG (n : Nat) (X : Nat → Nat → Nat) (Le : Nat → Nat) : Prop := ∀ hh, hh < n → Le hh ≤ 60 ∧ (∀ j, j < Le hh → okc (X hh) hh j) ∧ TM (X hh) (Le hh) = 0 ∧ ∀ j, j < Le hh → X hh j < 256
def HT (n : Nat) (X : Nat → Nat → Nat) (Le : Nat → Nat) (h : zH) : Prop := HB n h ∧ ∃ Ls, h 17 = zI32 6 Ls ∧ ∀ hh, hh < n → Ls hh = nI (LN (X hh) (Le hh) + 1) ∧ ∃ S G, h (11 + hh) = zI32 62 S ∧ h (4 + hh) = zI32 270 G ∧ JR (X hh) (Le hh) (LN (X hh) (Le hh) + 1) S G
def MT (n : Nat) (X : Nat → Nat → Nat) (Le : Nat → Nat) (h : zH) : Prop := ∃ Tx Tm, h 672 = zI32 360 Tx ∧ h 673 = zI32 6 Tm ∧ ∀ hh, hh < n → Tm hh = nI (Le hh) ∧ ∀ k, k < Le hh → Tx (60 * hh + k) = nI (X hh k)
section HUT
variable {h : zH} {n : Nat} {X : Nat → Nat → Nat} {Le : Nat → Nat}
theorem PG.wt (P : PG n X Le) {hh : Nat} (q : hh < n) : WT (X hh) (Le hh) ≤ 270 := by
  obtain ⟨a, b, -⟩ := P hh q
  have := WT_bound (T := X hh) (own := hh) (Le hh) b
  omega
theorem nw_line {T : Nat → Nat} {len : Nat} (hl : len ≤ 60) (l : Int32) : (∃ j, j < LN T len + 1 ∧ l = nI j) ∨ WC T l len = 0 := by
  have := LN_le (T := T) len
  rcases pk_ix l (n := LN T len + 1) (by omega) with a | a | ⟨j, hj, rfl⟩
  · refine Or.inr (WC_hi len fun j hj w => ?_)
    have := LN_le (T := T) j
    rw [← w] at a
    exact nI_pos (by omega) a
  · refine Or.inr (WC_hi len fun j hj w => ?_)
    have b := LN_mono (T := T) hj
    have := LN_le (T := T) j
    rw [← w] at a
    have := (nI_leI (by omega) (by omega)).mp a
    omega
  · exact Or.inl ⟨j, hj, rfl⟩
theorem PG.nw (P : PG n X Le) {hh : Nat} (q : hh < n) (l : Int32) : nwF X Le hh l ≤ 270 := by
  obtain ⟨a, b, -⟩ := P hh q
  have w := P.wt q
  have ln := LN_le (T := X hh) (Le hh)
  unfold nwF
  rcases nw_line (T := X hh) a l with ⟨j, hj, rfl⟩ | e
  · have := WS_succ (T := X hh) (by omega : j < 1000) (Le hh) (by omega)
    have : WS (X hh) (j + 1) (Le hh) ≤ WT (X hh) (Le hh) := WS_mono (by omega) _
    omega
  · omega
theorem PG.go (P : PG n X Le) {hh : Nat} (q : hh < n) (l : Int32) (i : Nat) (hi : i < nwF X Le hh l) : ∃ x, GO (X hh) l i (Le hh) = some x ∧ goF X Le hh l i = x ∧ x < 6 := by
  obtain ⟨a, b, -⟩ := P hh q
  have := (GO_lt (Le hh)).mpr hi
  rcases e : GO (X hh) l i (Le hh) with _ | x
  · rw [e] at this; cases this
  · refine ⟨x, rfl, ?_, (GO_val (Le hh) b e).1⟩
    unfold goF
    rw [e]
    rfl
theorem HT_HU (n6 : n ≤ 6) (P : PG n X Le) (H : HT n X Le h) : HU n (nwF X Le) (goF X Le) h := by
  intro h' hfr
  obtain ⟨⟨a2, ⟨g, a3, b3⟩, g', a10, b10⟩, Ls, a17, hH⟩ := H
  have HB' : HB n h' := ⟨by rw [hfr 2 (by omega) (by omega)]; exact a2, ⟨g, by rw [hfr 3 (by omega) (by omega)]; exact a3, b3⟩, g', by rw [hfr 10 (by omega) (by omega)]; exact a10, b10⟩
  obtain ⟨cl, e1, e2, e2', e2'', e3, e3'⟩ := HB_rd HB'
  have cv : ∀ {α : Type} (o : Option α), zcv h' 2 1 o = o := fun o => zcv_of cl
  have has : ∀ x, m_Huts_has 2 x h' = some (if ix x n = none then nI 0 else nI 1) := by
    intro x
    rcases ix_cases x n (by omega) with ⟨z, q | q⟩ | ⟨k, hk, rfl, z⟩
    · rw [z]
      simp only [m_Huts_has, eq_true q, if_true]
    · rw [z]
      by_cases q0 : x < 0
      · simp only [m_Huts_has, eq_true q0, if_true]
      · simp only [m_Huts_has, eq_false q0, if_false, e1, bind_some', eq_true q, if_true]
    · rw [z]
      have c : (n ≤ k) = False := eq_false (by omega)
      have c2 : ((some k : Option Nat) = none) = False := by simp
      simp (disch := omega) only [m_Huts_has, nI_lt0, if_false, e1, bind_some', nI_le_iff, c, c2]
  have hasn : ∀ hh, hh < n → m_Huts_has 2 (nI hh) h' = some (nI 1) := fun hh q => by
    rw [has, ix_nI q (by omega)]
    rfl
  have l17 : ∀ hh, hh < n → zaI h' 17 (nI hh) = some (nI (LN (X hh) (Le hh) + 1)) := fun hh q => by
    rw [zaI, zA32_of (g := Ls) (n := 6) (by rw [hfr 17 (by omega) (by omega)]; exact a17) (by omega) (by omega), (hH hh q).1]
  have n1 := nI1_0
  refine ⟨n6, cl, has, ?_, ?_, ?_⟩
  · simp only [m_Huts_size, e1, bind_some']
  · intro hh q l
    refine ⟨P.nw q l, ?_⟩
    obtain ⟨p60, pv, ptm, -⟩ := P hh q
    have ln := LN_le (T := X hh) (Le hh)
    obtain ⟨-, S, G, sS, sG, hJ⟩ := hH hh q
    rcases nw_line (T := X hh) p60 l with ⟨j, hj, rfl⟩ | e
    · have c : (j < LN (X hh) (Le hh) + 1) = True := eq_true hj
      have lS : ∀ k, k < 62 → zaI h' (11 + hh) (nI k) = some (S k) := fun k hk => zA32_of (by rw [hfr (11 + hh) (by omega) (by omega)]; exact sS) hk (by omega)
      have ws := WS_succ (T := X hh) (by omega : j < 1000) (Le hh) (by omega)
      have es : S (j + 1) - S j = nI (nwF X Le hh (nI j)) := by
        rw [hJ.1 _ (by omega), hJ.1 _ (by omega), nI_subn (by omega)]
        unfold nwF
        exact congrArg nI (by omega)
      simp (disch := omega) only [m_Huts_wordsOf, cv, hasn hh q, bind_some', n1, if_false, nI_lt0, e2'', l17 hh q, nI_lt_iff, c, if_true, e2', e3', nI_add, lS, es]
    · have e' : nwF X Le hh l = 0 := e
      rw [e']
      by_cases q0 : l < 0
      · simp (disch := omega) only [m_Huts_wordsOf, cv, hasn hh q, bind_some', n1, if_false, eq_true q0, if_true]
      · by_cases q1 : l < nI (LN (X hh) (Le hh) + 1)
        · obtain ⟨j, hj, rfl⟩ := nI_of q0
          have hj2 := (nI_ltI hj (by omega)).mp q1
          have c : (j < LN (X hh) (Le hh) + 1) = True := eq_true hj2
          have lS : ∀ k, k < 62 → zaI h' (11 + hh) (nI k) = some (S k) := fun k hk => zA32_of (by rw [hfr (11 + hh) (by omega) (by omega)]; exact sS) hk (by omega)
          have ws := WS_succ (T := X hh) (by omega : j < 1000) (Le hh) (by omega)
          have es : S (j + 1) - S j = nI 0 := by
            rw [hJ.1 _ (by omega), hJ.1 _ (by omega), nI_subn (by omega)]
            exact congrArg nI (by omega)
          simp (disch := omega) only [m_Huts_wordsOf, cv, hasn hh q, bind_some', n1, if_false, nI_lt0, e2'', l17 hh q, nI_lt_iff, c, if_true, e2', e3', nI_add, lS, es]
        · simp (disch := omega) only [m_Huts_wordsOf, cv, hasn hh q, bind_some', n1, if_false, eq_false q0, e2'', l17 hh q, eq_false q1]
  · intro hh q l i hi
    obtain ⟨x, gx, ex, x6⟩ := P.go q l i hi
    rw [ex]
    refine ⟨x6, ?_⟩
    obtain ⟨p60, pv, ptm, -⟩ := P hh q
    have ln := LN_le (T := X hh) (Le hh)
    have w := P.wt q
    obtain ⟨-, S, G, sS, sG, hJ⟩ := hH hh q
    rcases nw_line (T := X hh) p60 l with ⟨j, hj, rfl⟩ | e
    · have c : (j < LN (X hh) (Le hh) + 1) = True := eq_true hj
      have lS : ∀ k, k < 62 → zaI h' (11 + hh) (nI k) = some (S k) := fun k hk => zA32_of (by rw [hfr (11 + hh) (by omega) (by omega)]; exact sS) hk (by omega)
      have lG : ∀ k, k < 270 → zaI h' (4 + hh) (nI k) = some (G k) := fun k hk => zA32_of (by rw [hfr (4 + hh) (by omega) (by omega)]; exact sG) hk (by omega)
      have ws := WS_succ (T := X hh) (by omega : j < 1000) (Le hh) (by omega)
      have mo : WS (X hh) (j + 1) (Le hh) ≤ WT (X hh) (Le hh) := WS_mono (by omega) _
      have hi' : i < WC (X hh) (nI j) (Le hh) := hi
      have es : S (j + 1) - S j = nI (nwF X Le hh (nI j)) := by
        rw [hJ.1 _ (by omega), hJ.1 _ (by omega), nI_subn (by omega)]
        unfold nwF
        exact congrArg nI (by omega)
      have es0 : S j = nI (WS (X hh) j (Le hh)) := hJ.1 _ (by omega)
      have eG : G (WS (X hh) j (Le hh) + i) = nI x := hJ.2 j (by omega) i x gx
      have nwl := P.nw q (nI j)
      have c2 : (nwF X Le hh (nI j) ≤ i) = False := eq_false (by omega)
      simp (disch := omega) only [m_Huts_goal, cv, hasn hh q, bind_some', n1, if_false, nI_lt0, e2'', l17 hh q, nI_lt_iff, c, if_true, e2', e3', nI_add, lS, es, nI_le_iff, c2, e2, e3]
      simp (disch := omega) only [es0, nI_add, lG, bind_some', eG]
    · unfold nwF at hi
      omega
end HUT
