/-! STEPS FROM A ROW -/
abbrev V3 (p : cA) : Prop := p.1 = nI 1 ∨ p.1 = -3 ∨ p.1 = -5
section V3S
variable {g : Nat → Int32} {kd fm n : Nat} {nw : Nat → Int32 → Nat} {go : Nat → Int32 → Nat → Nat}
theorem V3.note {x y z : Int32} : V3 (aNote g x y z) := by
  unfold aNote
  split
  · exact Or.inl rfl
  · exact Or.inr (Or.inl rfl)
theorem V3.send {hh gl : Nat} : V3 (aSend fm n g hh gl) := by
  unfold aSend
  split
  · split
    · exact Or.inl rfl
    · exact Or.inr (Or.inl rfl)
  · exact Or.inl rfl
theorem V3.goOn {hh : Nat} : V3 (aGoOn fm n nw go g hh) := by
  unfold aGoOn
  split
  · exact Or.inr (Or.inr rfl)
  · split
    · split
      · split
        · exact Or.inl rfl
        · split
          · exact Or.inl rfl
          · exact V3.note
      · exact Or.inl rfl
    · exact V3.send
theorem V3.come {i : Nat} : V3 (aCome fm kd g i) := by
  unfold aCome aCome2
  split
  · exact Or.inl rfl
  · split
    · unfold aJoin
      split
      · exact V3.note
      · exact Or.inl rfl
    · split
      · exact Or.inl rfl
      · split
        · exact Or.inl rfl
        · exact Or.inl rfl
theorem V3.cn {i : Nat} : V3 (aCN fm kd n g i) := by
  unfold aCN
  split
  · exact Or.inr (Or.inr rfl)
  · unfold aCN2
    split
    · exact Or.inl rfl
    · split
      · exact Or.inl rfl
      · split
        · unfold aStone
          split
          · exact Or.inl rfl
          · exact V3.note
        · split
          · unfold aSums
            split
            · exact Or.inl rfl
            · exact V3.note
          · exact Or.inl rfl
theorem V3.ask : V3 (aAsk fm n g) := by
  unfold aAsk
  split
  · split
    · exact V3.note
    · split
      · exact V3.note
      · exact Or.inl rfl
  · exact Or.inr (Or.inr rfl)
theorem V3.lvs {hh : Nat} : V3 (lvS kd g hh) := by
  unfold lvS
  split
  · exact (V3.note : V3 (aNote g (g (81 + hh)) (nI 0) (nI 0)))
  · exact Or.inl rfl
theorem V3.lvl : ∀ (d hh : Nat) (g : Nat → Int32), V3 (lvL kd d hh g) := by
  intro d
  induction d with
  | zero => intro hh g; exact Or.inl rfl
  | succ d ih =>
    intro hh g
    unfold lvL
    split
    · exact ih _ _
    · exact V3.lvs
theorem V3.see {p : cA} (h : V3 p) : V3 (aSee fm p) := by
  unfold aSee
  split
  · exact h
  · exact h
theorem V3.fin {p : cA} (h : V3 p) : V3 (aFin fm kd n p) := by
  unfold aFin
  split
  · split
    · exact V3.see (V3.lvl _ _ _)
    · exact V3.see h
  · exact h
theorem V3.step {sort : Nat} {i : Int32} : V3 (aStep kd fm n nw go sort i g) := by
  unfold aStep
  refine V3.fin ?_
  rcases sort with _ | _ | _ | _ | _ | sort
  · show V3 (match ix i n with | some hh => aGoOn fm n nw go g hh | none => (-5, g))
    split
    · exact V3.goOn
    · exact Or.inr (Or.inr rfl)
  · show V3 (match ix i (cnt g 18) with | some k => aCome fm kd g k | none => (-5, g))
    split
    · exact V3.come
    · exact Or.inr (Or.inr rfl)
  · show V3 (match ix i (cnt g 43) with | some k => aCN fm kd n g k | none => (-5, g))
    split
    · exact V3.cn
    · exact Or.inr (Or.inr rfl)
  · show V3 (if i = 0 then aAsk fm n g else (-5, g))
    split
    · exact V3.ask
    · exact Or.inr (Or.inr rfl)
  · show V3 (match ix i (cnt g 18) with | some k => (nI 1, takeW g k) | none => (-5, g))
    split
    · exact Or.inl rfl
    · exact Or.inr (Or.inr rfl)
  · exact Or.inr (Or.inr rfl)
theorem aStep_neg {sort : Nat} {i : Int32} (e : ¬ (aStep kd fm n nw go sort i g).1 = nI 1) : ((0 : Int32) ≤ (aStep kd fm n nw go sort i g).1) = False ∧ (0 < (aStep kd fm n nw go sort i g).1) = False := by
  rcases (V3.step : V3 (aStep kd fm n nw go sort i g)) with q | q | q
  · exact absurd q e
  · rw [q]; exact ⟨eq_false (by decide), eq_false (by decide)⟩
  · rw [q]; exact ⟨eq_false (by decide), eq_false (by decide)⟩
end V3S
theorem s_apply_big {h : zH} {a r : Nat} {g : Nat → Int32} {x i : Int32} (hx : nI 5 ≤ x) : m_Rules_apply r a x i (zup h a (zI32 123 g)) = some (-5, zup h a (zI32 123 g)) := by
  have ne : ∀ k, k < 5 → (x = nI k) = False := fun k hk => eq_false (fun q => by
    rw [q] at hx
    have := (nI_leI (by omega) (by omega)).mp hx
    omega)
  have e5 : ((-5 : Int32) = nI 1) = False := eq_false n5ne
  simp only [m_Rules_apply, ne 0 (by omega), ne 1 (by omega), ne 2 (by omega), ne 3 (by omega), ne 4 (by omega), if_false, g_Rules_apply_94, g_Rules_apply_115, e5]
theorem c_adv_big {h : zH} {r wy kd c : Nat} {g : Nat → Int32} {sa oa x i : Int32} (C : RC r wy kd g c sa oa h) (S : cSp h) (hg : hi g) (r4 : r < 4) (hx : nI 5 ≤ x) : ∃ h', (∀ k, k ≠ 20 → k ≠ 646 + 3 * r → k ≠ 647 + 3 * r → h' k = h k) ∧ cSp h' ∧ m_Run_advance (646 + 3 * r) 20 x i h = some (-5, h') ∧ RC r wy kd g c sa oa h' := by
  obtain ⟨h1, h2, h3⟩ := C
  obtain ⟨sp, h20, hsp⟩ := S
  obtain ⟨-, r0, r1, -, -, -, -, -⟩ := RunE_rd h1
  have cp : zcpI h (647 + 3 * r) (nI 0) 20 (nI 0) (nI 123) = some (zup h 20 (zI32 123 g)) := by
    rw [zcpI_of h2 h20 (by omega) (by omega) (by omega), va_cpy_all hg hsp]
  have r0' : ∀ e, zrR (zup h 20 e) (646 + 3 * r) 4 0 = some (648 + 3 * r) := fun e => by rw [zrR_ne (by omega)]; exact r0
  have cv : ∀ e (o : Option (Int32 × zH)), zcv (zup h 20 e) (648 + 3 * r) 3 o = o := fun e o => rl_zcv h3 (by omega) e o
  have ap := s_apply_big (h := h) (a := 20) (r := 648 + 3 * r) (g := g) (i := i) hx
  have e5 : ((-5 : Int32) = nI 1) = False := eq_false n5ne
  refine ⟨zup h 20 (zI32 123 g), fun k a _ _ => zup_ne a, ⟨g, zup_eq _ _ _, hg⟩, ?_, ?_, ?_, ?_⟩
  · simp only [m_Run_advance, r1, bind_some', cp, r0', cv, ap, zb2_some, e5, if_false]
  · rw [zup_ne (by omega)]; exact h1
  · rw [zup_ne (by omega)]; exact h2
  · rw [zup_ne (by omega)]; exact h3
/-- a run's state: cells, steps done, when it said so, when it was over -/
abbrev rS4 : Type := (Nat → Int32) × Nat × Int32 × Int32
noncomputable def nx4 (kd n : Nat) (nw : Nat → Int32 → Nat) (go : Nat → Int32 → Nat → Nat) (v : Nat) (s : rS4) : rS4 :=
  ((aStep kd (fmo kd) n nw go (v / 100) (nI (v % 100)) s.1).2, s.2.1 + 1, saN (aStep kd (fmo kd) n nw go (v / 100) (nI (v % 100)) s.1).2 (s.2.1 + 1) s.2.2.1, oaN (aStep kd (fmo kd) n nw go (v / 100) (nI (v % 100)) s.1).2 (s.2.1 + 1) s.2.2.2)
noncomputable def sq4 (kd n : Nat) (nw : Nat → Int32 → Nat) (go : Nat → Int32 → Nat → Nat) (cd : Nat → Option Nat) : Nat → Nat → rS4 → Nat × rS4
  | 0, k, s => (k, s)
  | d + 1, k, s => match cd k with
    | none => (k, s)
    | some v => if v / 100 < 5 ∧ (aStep kd (fmo kd) n nw go (v / 100) (nI (v % 100)) s.1).1 = nI 1 then sq4 kd n nw go cd d (k + 1) (nx4 kd n nw go v s) else (k, s)
def RC4 (r wy kd : Nat) (s : rS4) (h : zH) : Prop := RC r wy kd s.1 s.2.1 s.2.2.1 s.2.2.2 h
def OK4 (kd n : Nat) (s : rS4) : Prop := IV (fmo kd) n s.2.1 0 s.1 ∧ okT s.2.2.1 ∧ okT s.2.2.2
section SQ
variable {h : zH} {n kd r wy : Nat} {nw : Nat → Int32 → Nat} {go : Nat → Int32 → Nat → Nat} {cd : Nat → Option Nat}
theorem OK4.nx {s : rS4} {v : Nat} (h4 : OK4 kd n s) (hc : s.2.1 ≤ 1000000) (hn : n ≤ 6) (hn0 : 0 < n) (hnw : ∀ hh, hh < n → ∀ l, nw hh l ≤ 270) (e : (aStep kd (fmo kd) n nw go (v / 100) (nI (v % 100)) s.1).1 = nI 1) : OK4 kd n (nx4 kd n nw go v s) :=
  ⟨h4.1.step hn hn0 (fmo_lt kd) hc hnw e, okT_1 _ _ (by omega) h4.2.1, okT_2 _ _ (by omega) h4.2.2⟩
theorem sq4_ok (hn : n ≤ 6) (hn0 : 0 < n) (hnw : ∀ hh, hh < n → ∀ l, nw hh l ≤ 270) : ∀ (d k : Nat) (s : rS4), OK4 kd n s → s.2.1 + d ≤ 1000000 → OK4 kd n (sq4 kd n nw go cd d k s).2 ∧ (sq4 kd n nw go cd d k s).2.2.1 ≤ s.2.1 + d := by
  intro d
  induction d with
  | zero => intro k s h4 _; exact ⟨h4, Nat.le_refl _⟩
  | succ d ih =>
    intro k s h4 hc
    unfold sq4
    rcases cd k with _ | v
    · exact ⟨h4, Nat.le_add_right _ _⟩
    · dsimp only
      split
      · rename_i e
        obtain ⟨a, b⟩ := ih (k + 1) _ (h4.nx (by omega) hn hn0 hnw e.2) (show s.2.1 + 1 + d ≤ 1000000 by omega)
        have b' : (sq4 kd n nw go cd d (k + 1) (nx4 kd n nw go v s)).2.2.1 ≤ s.2.1 + 1 + d := b
        exact ⟨a, by omega⟩
      · exact ⟨h4, Nat.le_add_right _ _⟩
theorem cod {v : Nat} (hv : v < 2 ^ 31) : nI v / nI 100 = nI (v / 100) ∧ nI v - nI (v / 100) * nI 100 = nI (v % 100) := by
  have e : nI v / nI 100 = nI (v / 100) := pk_div hv (by omega) (by omega)
  refine ⟨e, ?_⟩
  rw [pk_mul, nI_subn (by omega)]
  exact congrArg nI (by omega)
/-- the codes that a row of shorts tells from a place on -/
def cdF (el : Nat → Int64) (iN l : Nat) : Nat → Option Nat := fun k => if iN + k < l then (if (el (iN + k)).toInt32 < 0 then none else some (el (iN + k)).toInt32.toNatClampNeg) else none
theorem clN {x : Int32} (q : ¬ x < 0) : x = nI x.toNatClampNeg ∧ x.toNatClampNeg < 2 ^ 31 := by
  obtain ⟨j, hj, rfl⟩ := nI_of q
  rw [nI_clamp hj]
  exact ⟨rfl, hj⟩
theorem c_steps_l {s l tl ww rb N iN : Nat} {so wy' : Int32} {el : Nat → Int64} (r4 : r < 4) (hkd : kd < 9) (hn0 : 0 < n) (l60 : l ≤ 60) (hi : iN < l) (hN : N ≤ 60) (hs : s < 6) : ∀ (d k f : Nat) (st : rS4) (h : zH), N - k = d → k ≤ N → d < f → RC4 r wy kd st h → cSp h → HU n nw go h → OK4 kd n st → st.2.1 + d ≤ 1000000 → h 0 = HO tl ww rb → (∃ g, h 19 = zRf 3 4 g ∧ ∀ r, r < 4 → g r = some (646 + 3 * r)) → h (658 + 2 * s) = SHE s (nI l) so wy' → h (659 + 2 * s) = zI64 60 el → ∃ h', zloop (g_Home_steps_63 0 (nI r) (nI iN) (nI N) (658 + 2 * s)) f (nI k, h) = some (nI (sq4 kd n nw go (cdF el iN l) d k st).1, h') ∧ RC4 r wy kd (sq4 kd n nw go (cdF el iN l) d k st).2 h' ∧ cSp h' ∧ ∀ k, k ≠ 20 → k ≠ 646 + 3 * r → k ≠ 647 + 3 * r → h' k = h k := by
  have n1 := nI1_0
  have n0 := nI0_0
  intro d
  induction d with
  | zero =>
    intro k f st h hd hk hf C S H O hc h0 h19 k2 k3
    obtain ⟨f, rfl⟩ : ∃ k, f = k + 1 := ⟨f - 1, by omega⟩
    have c : (N ≤ k) = True := eq_true (by omega)
    refine ⟨h, ?_, C, S, fun _ _ _ _ => rfl⟩
    show g_Home_steps_63 0 (nI r) (nI iN) (nI N) (658 + 2 * s) _ (nI k, h) = some (nI k, h)
    simp (disch := omega) only [g_Home_steps_63, nI_le_iff, c, if_true]
  | succ d ih =>
    intro k f st h hd hk hf C S H O hc h0 h19 k2 k3
    obtain ⟨f, rfl⟩ : ∃ k, f = k + 1 := ⟨f - 1, by omega⟩
    have c : (N ≤ k) = False := eq_false (by omega)
    have p1 := sh_place l60 k2 (nI iN)
    rw [ix_nI hi (by omega)] at p1
    have e0 : ((some iN : Option Nat) = none) = False := by simp
    simp only [e0, if_false] at p1
    have p2 := sh_place l60 k2 (nI (iN + k))
    have cv := fun {α : Type} (o : Option α) => SHE_cv k2 o
    have r0 := (SHE_rd k2).2.1
    show ∃ h', g_Home_steps_63 0 (nI r) (nI iN) (nI N) (658 + 2 * s) (zloop _ f) (nI k, h) = _ ∧ _
    unfold sq4
    by_cases pl : iN + k < l
    · rw [ix_nI pl (by omega)] at p2
      have e0k : ((some (iN + k) : Option Nat) = none) = False := by simp
      simp only [e0k, if_false] at p2
      have at1 : m_Shelf_at (658 + 2 * s) (nI (iN + k)) h = some (el (iN + k)) := by
        have l1 : zaJ h (659 + 2 * s) (nI (iN + k)) = some (el (iN + k)) := zaJ_of k3 (by omega) (by omega)
        simp only [m_Shelf_at, cv, p2, bind_some', n1, if_false, r0, l1]
      by_cases ng : (el (iN + k)).toInt32 < 0
      · have ec : cdF el iN l k = none := by unfold cdF; rw [if_pos pl, if_pos ng]
        rw [ec]
        refine ⟨h, ?_, C, S, fun _ _ _ _ => rfl⟩
        simp (disch := omega) only [g_Home_steps_63, nI_le_iff, c, if_false, cv, p1, bind_some', n1, nI_add, p2, at1, eq_true ng, if_true]
      · obtain ⟨ev, v31⟩ := clN ng
        have ec : cdF el iN l k = some (el (iN + k)).toInt32.toNatClampNeg := by unfold cdF; rw [if_pos pl, if_neg ng]
        rw [ec]
        revert ng ev v31
        generalize (el (iN + k)).toInt32.toNatClampNeg = v
        intro ng ev v31
        obtain ⟨d1, d2⟩ := cod v31
        rw [← ev] at d1 d2
        obtain ⟨gg, a19, a19'⟩ := h19
        have q5 : zrR h 0 6 5 = some 19 := (HO_rd h0).2.2.2.2.2.2.1
        have q7 : zrR h 0 6 7 = some 20 := (HO_rd h0).2.2.2.2.2.2.2.2.1
        have r19 : zaR 3 h 19 (nI r) = some (646 + 3 * r) := zaR_of a19 r4 (by omega) (a19' r r4)
        have cvr : ∀ {α : Type} (o : Option α), zcv h (646 + 3 * r) 4 o = o := fun o => zcv_of (zcls_of C.1)
        dsimp only
        by_cases s5 : v / 100 < 5
        · obtain ⟨h1, fr1, S1, D⟩ := c_adv (i := nI (v % 100)) (sort := v / 100) r4 C S H hkd hn0 (by omega) (by omega) O.1
          rcases D with ⟨e, ea, CC⟩ | ⟨e, ea, CC⟩
          · rw [if_pos ⟨s5, e⟩]
            have ge : ((0 : Int32) ≤ nI (st.2.1 + 1)) = True := eq_true (nI_pos' (by omega))
            obtain ⟨h', x1, x2, x3, x4⟩ := ih (k + 1) f (nx4 kd n nw go v st) h1 (by omega) (by omega) (by omega) CC S1 (H.fr fun k a b => fr1 k (by omega) (by omega) (by omega)) (O.nx (by omega) (hu_n H) hn0 (fun hh q l => hu_nw H q l) e) (show st.2.1 + 1 + d ≤ 1000000 by omega) (by rw [fr1 0 (by omega) (by omega) (by omega)]; exact h0) ⟨gg, by rw [fr1 19 (by omega) (by omega) (by omega)]; exact a19, a19'⟩ (by rw [fr1 _ (by omega) (by omega) (by omega)]; exact k2) (by rw [fr1 _ (by omega) (by omega) (by omega)]; exact k3)
            refine ⟨h', ?_, x2, x3, fun k a b d => (x4 k a b d).trans (fr1 k a b d)⟩
            rw [← x1]
            simp (disch := omega) only [g_Home_steps_63, nI_le_iff, c, if_false, cv, p1, bind_some', n1, nI_add, p2, at1, eq_false ng, q5, r19, q7, cvr, d1, d2, ea, zb2_some, ge, if_true]
          · rw [if_neg (fun q => e q.2)]
            have lt : ((0 : Int32) ≤ (aStep kd (fmo kd) n nw go (v / 100) (nI (v % 100)) st.1).1) = False := (aStep_neg e).1
            refine ⟨h1, ?_, CC, S1, fr1⟩
            simp (disch := omega) only [g_Home_steps_63, nI_le_iff, c, if_false, cv, p1, bind_some', n1, nI_add, p2, at1, eq_false ng, q5, r19, q7, cvr, d1, d2, ea, zb2_some, lt]
        · rw [if_neg (fun q => s5 q.1)]
          obtain ⟨h1, fr1, S1, ea, CC⟩ := c_adv_big (i := nI (v % 100)) (x := nI (v / 100)) C S O.1.2.2.2.2.2.2.2.2 r4 ((nI_leI (by omega) (by omega)).mpr (by omega))
          have lt : ((0 : Int32) ≤ -5) = False := eq_false (by decide)
          refine ⟨h1, ?_, CC, S1, fr1⟩
          simp (disch := omega) only [g_Home_steps_63, nI_le_iff, c, if_false, cv, p1, bind_some', n1, nI_add, p2, at1, eq_false ng, q5, r19, q7, cvr, d1, d2, ea, zb2_some, lt]
    · have zn : ix (nI (iN + k)) l = none := by
        rcases ix_cases (nI (iN + k)) l (by omega) with ⟨y, -⟩ | ⟨j, hj, e, -⟩
        · exact y
        · have := (nI_eq (by omega) (by omega)).mp e; omega
      rw [zn, if_pos rfl] at p2
      have ec : cdF el iN l k = none := by unfold cdF; rw [if_neg pl]
      rw [ec]
      refine ⟨h, ?_, C, S, fun _ _ _ _ => rfl⟩
      simp (disch := omega) only [g_Home_steps_63, nI_le_iff, c, if_false, cv, p1, bind_some', n1, nI_add, p2, n0, if_true]
end SQ
