/-! THE CLASS'S RULES over a row of 123 cells g: what each method answers and makes of it. -/
/-- a place, if the number is one -/
def ix (x : Int32) (n : Nat) : Option Nat := if x < 0 ∨ n ≤ x.toNatClampNeg then none else some x.toNatClampNeg
theorem ix_nI {k n : Nat} (hk : k < n) (hn : n ≤ 100000) : ix (nI k) n = some k := by
  unfold ix
  rw [if_neg (nI_out hk hn), nI_cl (by omega)]
theorem ix_cases (x : Int32) (n : Nat) (hn : n ≤ 100000) : (ix x n = none ∧ (x < 0 ∨ nI n ≤ x)) ∨ ∃ k, k < n ∧ x = nI k ∧ ix x n = some k := by
  rcases pk_ix x (n := n) (by omega) with h | h | ⟨k, hk, rfl⟩
  · exact Or.inl ⟨if_pos (Or.inl h), Or.inl h⟩
  · refine Or.inl ⟨if_pos ?_, Or.inr h⟩
    rcases Int32.lt_or_le x 0 with q | q
    · exact Or.inl q
    · refine Or.inr ?_
      obtain ⟨j, hj, rfl⟩ := nI_of (Int32.not_lt.mpr q)
      rw [nI_clamp hj]
      exact (nI_leI (by omega) hj).mp h
  · exact Or.inr ⟨k, hk, rfl, ix_nI hk hn⟩
def fmo : Nat → Nat := fun k => match k with
  | 0 => 0
  | 1 => 1
  | 2 => 2
  | 3 => 3
  | 4 => 4
  | 5 => 5
  | 6 => 2
  | 7 => 4
  | _ => 5
abbrev rulE (kd : Nat) : zE := .inl (3, [.ref 2, .int (nI kd), .int (nI (fmo kd))])
/-- what the huts answer, in every heap that has them alike -/
def HU (n : Nat) (nw : Nat → Int32 → Nat) (go : Nat → Int32 → Nat → Nat) (h : zH) : Prop :=
  ∀ h' : zH, (∀ k, 2 ≤ k → k < 18 → h' k = h k) → n ≤ 6 ∧ zcls h' 2 = 1 ∧ (∀ x, m_Huts_has 2 x h' = some (if ix x n = none then nI 0 else nI 1)) ∧ m_Huts_size 2 h' = some (nI n) ∧ (∀ hh, hh < n → ∀ l, nw hh l ≤ 270 ∧ m_Huts_wordsOf 2 (nI hh) l h' = some (nI (nw hh l))) ∧ (∀ hh, hh < n → ∀ l i, i < nw hh l → go hh l i < 6 ∧ m_Huts_goal 2 (nI hh) l (nI i) h' = some (nI (go hh l i)))
theorem HU.fr {n : Nat} {nw : Nat → Int32 → Nat} {go : Nat → Int32 → Nat → Nat} {h h' : zH} (H : HU n nw go h) (q : ∀ k, 2 ≤ k → k < 18 → h' k = h k) : HU n nw go h' := fun h2 q2 => H h2 (fun k a b => (q2 k a b).trans (q k a b))
theorem HU.up {n : Nat} {nw : Nat → Int32 → Nat} {go : Nat → Int32 → Nat → Nat} {h : zH} {a : Nat} {e : zE} (H : HU n nw go h) (ha : 18 ≤ a) : HU n nw go (zup h a e) := H.fr (fun k _ q => zup_ne (by omega))
def cg (g : Nat → Int32) (st i : Nat) : Nat → Int32 := fun k => if st + i ≤ k ∧ k < st + 7 then g (k + 1) else if k = st + 7 then 0 else g k
def cnt (g : Nat → Int32) (c : Nat) : Nat := (g c).toNatClampNeg
def pushN (g : Nat → Int32) (k : Nat) (to x y : Int32) : Nat → Int32 := upd (upd (upd (upd (upd g (44 + k) to) (52 + k) x) (60 + k) y) 43 (nI (k + 1))) 122 (g 122 + nI 1)
def pushW (g : Nat → Int32) (k : Nat) (fr to u : Int32) : Nat → Int32 := upd (upd (upd (upd g (19 + k) fr) (27 + k) to) (35 + k) u) 18 (nI (k + 1))
abbrev cA : Type := Int32 × (Nat → Int32)
def aNote (g : Nat → Int32) (to x y : Int32) : cA := if cnt g 43 < 8 then (nI 1, pushN g (cnt g 43) to x y) else (-3, g)
def takeW (g : Nat → Int32) (i : Nat) : Nat → Int32 := cg (cg (cg (upd g 18 (g 18 - nI 1)) 19 i) 27 i) 35 i
def takeN (g : Nat → Int32) (i : Nat) : Nat → Int32 := cg (cg (cg (upd g 43 (g 43 - nI 1)) 44 i) 52 i) 60 i
def puG (g : Nat → Int32) (hh : Nat) : Nat → Int32 := if nI 1 < g (68 + hh) then g else upd (upd g (68 + hh) (g (68 + hh) + nI 64)) 74 (g 74 + nI 64)
def puH (g : Nat → Int32) (hh : Nat) : Int32 := puG g hh (68 + hh) / nI 2
def puR (g : Nat → Int32) (hh : Nat) : Nat → Int32 := upd (puG g hh) (68 + hh) (puG g hh (68 + hh) - puH g hh)
/-- a row of counts within its bounds -/
def okC (g : Nat → Int32) : Prop := (∃ w, w ≤ 8 ∧ g 18 = nI w) ∧ ∃ k, k ≤ 8 ∧ g 43 = nI k
theorem cnt_nI {g : Nat → Int32} {c k : Nat} (h : g c = nI k) (hk : k < 1000000) : cnt g c = k := by unfold cnt; rw [h, nI_cl hk]
section RU
variable {h : zH} {a : Nat} {g : Nat → Int32}
theorem s_closeGap_l {st : Nat} (hst : st + 8 ≤ 123) : ∀ (d j n : Nat) (g : Nat → Int32), 7 - j = d → j ≤ 7 → d < n → zloop (g_Rules_closeGap_2 a (nI st)) n (nI j, zup h a (zI32 123 g)) = some (zup h a (zI32 123 (cg g st j))) := by
  intro d
  induction d with
  | zero =>
    intro j n g hd hj hn
    obtain ⟨n, rfl⟩ : ∃ k, n = k + 1 := ⟨n - 1, by omega⟩
    obtain rfl : j = 7 := by omega
    show g_Rules_closeGap_2 a (nI st) _ (nI 7, zup h a (zI32 123 g)) = _
    have c : (7 ≤ 7) = True := eq_true (by omega)
    simp (disch := omega) only [g_Rules_closeGap_2, nI_le_iff, nI_add, nI_subn, zsI, zS32_st, bind_some', c, if_true]
    refine congrArg (fun z => some (zup h a (zI32 123 z))) (funext fun k => ?_)
    unfold cg upd
    by_cases e : k = st + 8 - 1
    · rw [if_pos e, if_neg (by omega), if_pos (by omega), nI_0]
    · rw [if_neg e, if_neg (by omega), if_neg (by omega)]
  | succ d ih =>
    intro j n g hd hj hn
    obtain ⟨n, rfl⟩ : ∃ k, n = k + 1 := ⟨n - 1, by omega⟩
    show g_Rules_closeGap_2 a (nI st) (zloop (g_Rules_closeGap_2 a (nI st)) n) (nI j, zup h a (zI32 123 g)) = _
    have c : (7 ≤ j) = False := eq_false (by omega)
    simp (disch := omega) only [g_Rules_closeGap_2, nI_le_iff, nI_add, zsI, zaI, zS32_st, zA32_ld, bind_some', c, if_false]
    rw [ih (j + 1) n _ (by omega) (by omega) (by omega)]
    refine congrArg (fun z => some (zup h a (zI32 123 z))) (funext fun k => ?_)
    unfold cg upd
    by_cases e : k = st + j
    · rw [if_neg (by omega), if_neg (by omega), if_pos e, if_pos (by omega), e]
    · by_cases e2 : st + j ≤ k ∧ k < st + 7
      · rw [if_pos (by omega), if_neg (by omega), if_pos e2]
      · rw [if_neg (by omega), if_neg e2]
        by_cases e3 : k = st + 7
        · rw [if_pos e3, if_pos e3]
        · rw [if_neg e3, if_neg e3, if_neg e]
theorem s_closeGap {st i : Nat} (hst : st + 8 ≤ 123) (hi : i < 8) : m_Rules_closeGap a (nI st) (nI i) (zup h a (zI32 123 g)) = some (zup h a (zI32 123 (cg g st i))) :=
  s_closeGap_l hst _ i zN g rfl (by omega) (by have := zN_big; omega)
theorem s_takeW {i : Nat} (hi : i < 8) : m_Rules_takeAwayWord a (nI i) (zup h a (zI32 123 g)) = some (zup h a (zI32 123 (takeW g i))) := by
  simp (disch := omega) only [m_Rules_takeAwayWord, zaI, zsI, zA32_ld, zS32_st, bind_some', s_closeGap]
  rfl
theorem s_note {k : Nat} (hk : g 43 = nI k) (h8 : k ≤ 8) (to x y : Int32) : m_Rules_sendNote a to x y (zup h a (zI32 123 g)) = some ((aNote g to x y).1, zup h a (zI32 123 (aNote g to x y).2)) := by
  unfold aNote
  rw [cnt_nI hk (by omega)]
  by_cases c : k < 8
  · have c1 : (k < 8) = True := eq_true c
    simp (disch := omega) only [m_Rules_sendNote, zaI, zsI, zA32_ld, zS32_st, bind_some', hk, nI_lt0, nI_lt_iff, c1, if_true, if_false, nI_add, upd_ne]
    rfl
  · have c1 : (k < 8) = False := eq_false c
    simp (disch := omega) only [m_Rules_sendNote, zaI, zsI, zA32_ld, zS32_st, bind_some', hk, nI_lt0, nI_lt_iff, c1, if_true, if_false]
theorem s_partU {hh : Nat} (hh6 : hh < 6) : m_Rules_partUnits a (nI hh) (zup h a (zI32 123 g)) = some (puH g hh, zup h a (zI32 123 (puR g hh))) := by
  unfold puR puH puG
  by_cases c : nI 1 < g (68 + hh)
  · have c1 : (nI 1 < g (68 + hh)) = True := eq_true c
    simp (disch := omega) only [m_Rules_partUnits, g_Rules_partUnits_30, zaI, zsI, zA32_ld, zS32_st, bind_some', c1, if_true, nI_add]
  · have c1 : (nI 1 < g (68 + hh)) = False := eq_false c
    simp (disch := omega) only [m_Rules_partUnits, g_Rules_partUnits_30, zaI, zsI, zA32_ld, zS32_st, bind_some', c1, if_false, nI_add, upd_ne]
end RU
