/-! ACTS -/
abbrev tT : Type := (Nat → Int32) × Nat
def bgn (t : tT) (b : Nat) : tT := (if t.2 < 24 then upd t.1 t.2 (nI b) else t.1, t.2 + 1)
def sP (nm : Int32) (k : Nat) (x : Int32) (t : tT) : Int32 × tT := if k = 1 then ((x + nm) / nI 2, bgn (bgn t 20) 1) else if k = 4 ∨ k = 7 then ((x + nm) * nI 3, bgn (bgn t 50) 1) else (x + nm, bgn t 1)
def aP0 (nm : Int32) (kd : Nat) (x : Int32) (t : tT) : Int32 × tT := ((sP nm kd x (bgn t 10)).1 * nI 2, (sP nm kd x (bgn t 10)).2)
def aP3 (nm : Int32) (kd : Nat) (x : Int32) (t : tT) : Int32 × tT := ((aP0 nm kd x (bgn t 40)).1 - nI 1, (aP0 nm kd x (bgn t 40)).2)
def aP7 (nm : Int32) (kd : Nat) (x : Int32) (t : tT) : Int32 × tT := ((aP3 nm kd x (bgn t 80)).1 + (sP nm 4 x (aP3 nm kd x (bgn t 80)).2).1, (sP nm 4 x (aP3 nm kd x (bgn t 80)).2).2)
def aP (nm : Int32) (kd k : Nat) (x : Int32) (t : tT) : Int32 × tT := if k = 7 then aP7 nm kd x t else if k = 3 ∨ k = 4 ∨ k = 5 ∨ k = 8 then aP3 nm kd x t else aP0 nm kd x t
def oP0 (nm x : Int32) (t : tT) : Int32 × tT := (x ^^^ nm, bgn t 11)
def oP2 (nm : Int32) (kd : Nat) (x : Int32) (t : tT) : Int32 × tT := ((oP0 nm x (bgn t 30)).1 + (sP nm kd (nI 2) (oP0 nm x (bgn t 30)).2).1, (sP nm kd (nI 2) (oP0 nm x (bgn t 30)).2).2)
def oP (nm : Int32) (kd k : Nat) (x : Int32) (t : tT) : Int32 × tT := if k = 2 then oP2 nm kd x t else if k = 5 ∨ k = 8 then oP0 nm (x + nI 1) (bgn t 61) else if k = 6 then (-(oP2 nm kd x (bgn t 70)).1, (oP2 nm kd x (bgn t 70)).2) else oP0 nm x t
def tP0 (nm : Int32) (kd : Nat) (x : Int32) (t : tT) : Int32 × tT := ((aP nm kd kd x (bgn t 2)).1 - (oP nm kd kd (nI 1) (aP nm kd kd x (bgn t 2)).2).1, (oP nm kd kd (nI 1) (aP nm kd kd x (bgn t 2)).2).2)
def tP5 (nm : Int32) (kd : Nat) (x : Int32) (t : tT) : Int32 × tT := ((tP0 nm kd x (bgn t 60)).1 ^^^ nI 5, (tP0 nm kd x (bgn t 60)).2)
def tP (nm : Int32) (kd k : Nat) (x : Int32) (t : tT) : Int32 × tT := if k = 5 then tP5 nm kd x t else if k = 8 then ((tP5 nm kd x (bgn t 90)).1 * nI 2, (tP5 nm kd x (bgn t 90)).2) else tP0 nm kd x t
theorem sP_n {nm : Int32} {k : Nat} {x : Int32} {t : tT} : (sP nm k x t).2.2 ≤ t.2 + 2 := by
  unfold sP
  split
  · show t.2 + 1 + 1 ≤ _; omega
  · split
    · show t.2 + 1 + 1 ≤ _; omega
    · show t.2 + 1 ≤ _; omega
theorem aP0_n {nm : Int32} {kd : Nat} {x : Int32} {t : tT} : (aP0 nm kd x t).2.2 ≤ t.2 + 3 := by
  have : (sP nm kd x (bgn t 10)).2.2 ≤ t.2 + 1 + 2 := sP_n
  show (sP nm kd x (bgn t 10)).2.2 ≤ _
  omega
theorem aP3_n {nm : Int32} {kd : Nat} {x : Int32} {t : tT} : (aP3 nm kd x t).2.2 ≤ t.2 + 4 := by
  have : (aP0 nm kd x (bgn t 40)).2.2 ≤ t.2 + 1 + 3 := aP0_n
  show (aP0 nm kd x (bgn t 40)).2.2 ≤ _
  omega
theorem aP_n {nm : Int32} {kd k : Nat} {x : Int32} {t : tT} : (aP nm kd k x t).2.2 ≤ t.2 + 7 := by
  unfold aP
  split
  · have a : (aP3 nm kd x (bgn t 80)).2.2 ≤ t.2 + 1 + 4 := aP3_n
    have : (sP nm 4 x (aP3 nm kd x (bgn t 80)).2).2.2 ≤ _ := sP_n
    show (sP nm 4 x (aP3 nm kd x (bgn t 80)).2).2.2 ≤ _
    omega
  · split
    · have := aP3_n (nm := nm) (kd := kd) (x := x) (t := t); omega
    · have := aP0_n (nm := nm) (kd := kd) (x := x) (t := t); omega
theorem oP2_n {nm : Int32} {kd : Nat} {x : Int32} {t : tT} : (oP2 nm kd x t).2.2 ≤ t.2 + 4 := by
  have a : (oP0 nm x (bgn t 30)).2.2 = t.2 + 1 + 1 := rfl
  have : (sP nm kd (nI 2) (oP0 nm x (bgn t 30)).2).2.2 ≤ _ := sP_n
  show (sP nm kd (nI 2) (oP0 nm x (bgn t 30)).2).2.2 ≤ _
  omega
theorem oP_n {nm : Int32} {kd k : Nat} {x : Int32} {t : tT} : (oP nm kd k x t).2.2 ≤ t.2 + 5 := by
  unfold oP
  split
  · have := oP2_n (nm := nm) (kd := kd) (x := x) (t := t); omega
  · split
    · show t.2 + 1 + 1 ≤ _; omega
    · split
      · have : (oP2 nm kd x (bgn t 70)).2.2 ≤ t.2 + 1 + 4 := oP2_n
        show (oP2 nm kd x (bgn t 70)).2.2 ≤ _
        omega
      · show t.2 + 1 ≤ _; omega
theorem tP0_n {nm : Int32} {kd : Nat} {x : Int32} {t : tT} : (tP0 nm kd x t).2.2 ≤ t.2 + 13 := by
  have a : (aP nm kd kd x (bgn t 2)).2.2 ≤ t.2 + 1 + 7 := aP_n
  have : (oP nm kd kd (nI 1) (aP nm kd kd x (bgn t 2)).2).2.2 ≤ _ := oP_n
  show (oP nm kd kd (nI 1) (aP nm kd kd x (bgn t 2)).2).2.2 ≤ _
  omega
theorem tP_n {nm : Int32} {kd k : Nat} {x : Int32} {t : tT} : (tP nm kd k x t).2.2 ≤ t.2 + 15 := by
  unfold tP
  split
  · have : (tP0 nm kd x (bgn t 60)).2.2 ≤ t.2 + 1 + 13 := tP0_n
    show (tP0 nm kd x (bgn t 60)).2.2 ≤ _
    omega
  · split
    · have : (tP0 nm kd x (bgn (bgn t 90) 60)).2.2 ≤ t.2 + 1 + 1 + 13 := tP0_n
      show (tP0 nm kd x (bgn (bgn t 90) 60)).2.2 ≤ _
      omega
    · have := tP0_n (nm := nm) (kd := kd) (x := x) (t := t); omega
-- the class
def AE (ran : Nat) (kd nm : Int32) : zE := .inl (0, [.ref 644, .int (nI ran), .int kd, .int nm])
def aH (h : zH) (kd nm : Int32) (t : tT) : zH := zup (zup h 644 (zI32 24 t.1)) 643 (AE t.2 kd nm)
section ACT
variable {h : zH} {kd nm : Int32} {t : tT}
theorem aH_643 : aH h kd nm t 643 = AE t.2 kd nm := zup_eq _ _ _
theorem aH_cv {α : Type} (o : Option α) : zcv (aH h kd nm t) 643 0 o = o := zcv_of (zcls_of aH_643)
theorem aH_1 : zrI (aH h kd nm t) 643 0 1 = some (nI t.2) := zrI_of aH_643 rfl
theorem aH_2 : zrI (aH h kd nm t) 643 0 2 = some kd := zrI_of aH_643 rfl
theorem aH_3 : zrI (aH h kd nm t) 643 0 3 = some nm := zrI_of aH_643 rfl
theorem aH_bg {b : Nat} (ht : t.2 < 90000) : m_Acts_begun 643 (nI b) (aH h kd nm t) = some (aH h kd nm (bgn t b)) := by
  have w : ∀ tr, zwI (aH h kd nm (tr, t.2)) 643 0 1 (nI (t.2 + 1)) = some (aH h kd nm (tr, t.2 + 1)) := fun tr => by
    rw [zwI_of aH_643 (by simp)]
    unfold aH
    rw [zup_zup]
    rfl
  have r0 : zrR (aH h kd nm t) 643 0 0 = some 644 := zrR_of aH_643 rfl
  have r1 : ∀ tr, zrI (aH h kd nm (tr, t.2)) 643 0 1 = some (nI t.2) := fun tr => zrI_of aH_643 rfl
  unfold bgn
  by_cases c : t.2 < 24
  · have c2 : (24 ≤ t.2) = False := eq_false (by omega)
    have s : zsI (aH h kd nm t) 644 (nI t.2) (nI b) = some (aH h kd nm (upd t.1 t.2 (nI b), t.2)) := by
      rw [zsI, zS32_of (h := aH h kd nm t) (a := 644) (g := t.1) (n := 24) (by unfold aH; rw [zup_ne (by omega), zup_eq]) c (by omega)]
      unfold aH
      rw [zup_comm (by omega), zup_zup]
    rw [if_pos c]
    simp (disch := omega) only [m_Acts_begun, aH_1, bind_some', nI_le_iff, c2, if_false, r0, s, r1, nI_add, w]
  · have c2 : (24 ≤ t.2) = True := eq_true (by omega)
    rw [if_neg c]
    have w' := w t.1
    simp (disch := omega) only [m_Acts_begun, aH_1, bind_some', nI_le_iff, c2, if_true, nI_add]
    rw [w', bind_some']
def own (k a : Nat) : Nat := match a with
  | 0 => if k = 1 then 1 else if k = 4 ∨ k = 7 then 4 else 0
  | 1 => if k = 7 then 7 else if k = 3 ∨ k = 4 ∨ k = 5 ∨ k = 8 then 3 else 0
  | 2 => if k = 2 then 2 else if k = 5 ∨ k = 8 then 5 else if k = 6 then 6 else 0
  | _ => if k = 5 then 5 else if k = 8 then 8 else 0
theorem own_tab : ∀ k, k < 9 → ∀ a, a < 4 → ∀ (j : Nat) (x lev : Int32) (h : zH) (kk : (Nat × Int32 × Int32 × Int32 × Int32 × zH) → Option (Int32 × zH)), zloop (g_Acts_perform_6 643 (nI a) x lev h kk) (j + 12) (nI k, nI 0) = g_Acts_perform_48 643 (nI a) x lev (nI (own k a)) h kk := by
  intro k hk a ha j x lev h kk
  rcases (show k = 0 ∨ k = 1 ∨ k = 2 ∨ k = 3 ∨ k = 4 ∨ k = 5 ∨ k = 6 ∨ k = 7 ∨ k = 8 by omega) with rfl | rfl | rfl | rfl | rfl | rfl | rfl | rfl | rfl <;>
  rcases (show a = 0 ∨ a = 1 ∨ a = 2 ∨ a = 3 by omega) with rfl | rfl | rfl | rfl <;> rfl
theorem PF_step {f k a : Nat} (hk : k < 9) (ha : a < 4) (x lev : Int32) (H : zH) : zloop g_Acts_perform_0 (f + 1) (643, nI k, nI a, x, lev, H) = g_Acts_perform_48 643 (nI a) x lev (nI (own k a)) H (zloop g_Acts_perform_0 f) := by
  obtain ⟨m, hm⟩ := zN10
  show zloop (g_Acts_perform_6 643 (nI a) x lev H (zloop g_Acts_perform_0 f)) zN (nI k, nI 0) = _
  rw [hm]
  exact own_tab k hk a ha m x lev H _
theorem bd {k a : Nat} {h : zH} : m_Acts_bodyOf (nI 0) (nI 0) h = some (nI 1) ∧ m_Acts_bodyOf (nI 0) (nI 1) h = some (nI 10) ∧ m_Acts_bodyOf (nI 0) (nI 2) h = some (nI 11) ∧ m_Acts_bodyOf (nI 0) (nI 3) h = some (nI 2) ∧ m_Acts_bodyOf (nI 1) (nI 0) h = some (nI 20) ∧ m_Acts_bodyOf (nI 2) (nI 2) h = some (nI 30) ∧ m_Acts_bodyOf (nI 3) (nI 1) h = some (nI 40) ∧ m_Acts_bodyOf (nI 4) (nI 0) h = some (nI 50) ∧ m_Acts_bodyOf (nI 5) (nI 2) h = some (nI 61) ∧ m_Acts_bodyOf (nI 5) (nI 3) h = some (nI 60) ∧ m_Acts_bodyOf (nI 6) (nI 2) h = some (nI 70) ∧ m_Acts_bodyOf (nI 7) (nI 1) h = some (nI 80) ∧ m_Acts_bodyOf (nI 8) (nI 3) h = some (nI 90) :=
  ⟨rfl, rfl, rfl, rfl, rfl, rfl, rfl, rfl, rfl, rfl, rfl, rfl, rfl⟩
theorem zt0 : ztab 0 (nI 0) = some (-1) ∧ ztab 0 (nI 1) = some (nI 0) ∧ ztab 0 (nI 2) = some (nI 0) ∧ ztab 0 (nI 3) = some (nI 0) ∧ ztab 0 (nI 4) = some (nI 3) ∧ ztab 0 (nI 5) = some (nI 3) ∧ ztab 0 (nI 6) = some (nI 2) ∧ ztab 0 (nI 7) = some (nI 4) ∧ ztab 0 (nI 8) = some (nI 5) := ⟨rfl, rfl, rfl, rfl, rfl, rfl, rfl, rfl, rfl⟩
/-- a kind that has a row above is a kind -/
theorem ik_ztab {k : Nat} {u : Int32} (h : zH) (hu : ztab 0 (nI k) = some u) : m_Home_isKind (nI k) h = some (nI 1) := by
  have hl : (zsl 0).length = 9 := rfl
  unfold ztab at hu
  rw [hl] at hu
  by_cases c : nI k < 0 ∨ 9 ≤ (nI k).toNatClampNeg
  · rw [if_pos c] at hu; cases hu
  · rw [isKind_ix, show ix (nI k) 9 = some (nI k).toNatClampNeg from if_neg c, if_neg (by simp)]
/-- a body begins: what it comes to is the switch's -/
theorem g48 {a k b : Nat} {u : Int32} {x : Int32} {lev : Nat} (hb : ∀ h, m_Acts_bodyOf (nI k) (nI a) h = some (nI b)) (hu : ztab 0 (nI k) = some u) (b0 : 0 < b) (bb : b < 1000) (hl : lev ≤ 30) (ht : t.2 < 90000) (K : (Nat × Int32 × Int32 × Int32 × Int32 × zH) → Option (Int32 × zH)) : g_Acts_perform_48 643 (nI a) x (nI lev) (nI k) (aH h kd nm t) K =
    (if b = 1 then some (x + nm, aH h kd nm (bgn t b))
    else if b = 2 then zb2 (K (643, kd, nI 1, x, nI (lev + 1), aH h kd nm (bgn t b))) fun v H => (zrI H 643 0 2).bind fun z => zb2 (zcv H 643 0 (K (643, z, nI 2, nI 1, nI (lev + 1), H))) fun v2 H2 => some (v - v2, H2)
    else if b = 10 then zb2 (K (643, kd, nI 0, x, nI (lev + 1), aH h kd nm (bgn t b))) fun v H => some (v * nI 2, H)
    else if b = 11 then some (x ^^^ nm, aH h kd nm (bgn t b))
    else if b = 20 then zb2 (K (643, u, nI 0, x, nI (lev + 1), aH h kd nm (bgn t b))) fun v H => some (v / nI 2, H)
    else if b = 30 then zb2 (K (643, u, nI 2, x, nI (lev + 1), aH h kd nm (bgn t b))) fun v H => (zrI H 643 0 2).bind fun z => zb2 (zcv H 643 0 (K (643, z, nI 0, nI 2, nI (lev + 1), H))) fun v2 H2 => some (v + v2, H2)
    else if b = 40 then zb2 (K (643, u, nI 1, x, nI (lev + 1), aH h kd nm (bgn t b))) fun v H => some (v - nI 1, H)
    else if b = 50 then zb2 (K (643, u, nI 0, x, nI (lev + 1), aH h kd nm (bgn t b))) fun v H => some (v * nI 3, H)
    else if b = 60 then zb2 (K (643, u, nI 3, x, nI (lev + 1), aH h kd nm (bgn t b))) fun v H => some (v ^^^ nI 5, H)
    else if b = 61 then zb2 (K (643, u, nI 2, x + nI 1, nI (lev + 1), aH h kd nm (bgn t b))) fun v H => some (v, H)
    else if b = 70 then zb2 (K (643, u, nI 2, x, nI (lev + 1), aH h kd nm (bgn t b))) fun v H => some (-v, H)
    else if b = 80 then zb2 (K (643, u, nI 1, x, nI (lev + 1), aH h kd nm (bgn t b))) fun v H => zb2 (zcv H 643 0 (K (643, u, nI 0, x, nI (lev + 1), H))) fun v2 H2 => some (v + v2, H2)
    else if b = 90 then zb2 (K (643, u, nI 3, x, nI (lev + 1), aH h kd nm (bgn t b))) fun v H => some (v * nI 2, H)
    else some (nI 0, aH h kd nm (bgn t b))) := by
  have e0 : (nI b = 0) = False := by rw [nI_eq0 (by omega)]; exact eq_false (by omega)
  have l30 : (lev ≤ 30) = True := eq_true hl
  unfold g_Acts_perform_48
  rw [hb, bind_some', if_neg (by rw [e0]; exact id), ik_ztab _ hu, bind_some', if_neg (by rw [nI1_0]; exact id), if_pos (by rw [nI_le_iff (by omega) (by omega)]; exact hl), aH_cv, aH_bg ht, bind_some', hu, bind_some']
  have ee : ∀ k, k < 1000 → (nI b = nI k) = (b = k) := fun k hk => nI_eq_iff (by omega) (by omega)
  have ad : nI lev + nI 1 = nI (lev + 1) := nI_add _ _
  simp (config := { maxSteps := 2000000 }) only [ee 1 (by omega), ee 2 (by omega), ee 10 (by omega), ee 11 (by omega), ee 20 (by omega), ee 30 (by omega), ee 40 (by omega), ee 50 (by omega), ee 60 (by omega), ee 61 (by omega), ee 70 (by omega), ee 80 (by omega), ee 90 (by omega), aH_2, aH_3, bind_some', aH_cv, ad]
theorem C_sends {k : Nat} (hk : k < 9) {f lev : Nat} (hl : lev ≤ 25) (ht : t.2 < 80000) (x : Int32) : zloop g_Acts_perform_0 (f + 2) (643, nI k, nI 0, x, nI lev, aH h kd nm t) = some ((sP nm k x t).1, aH h kd nm (sP nm k x t).2) := by
  have b0 : ∀ (f k : Nat) (t : tT) (lev : Nat), own k 0 = 0 → k < 9 → lev ≤ 30 → t.2 < 90000 → zloop g_Acts_perform_0 (f + 1) (643, nI k, nI 0, x, nI lev, aH h kd nm t) = some (x + nm, aH h kd nm (bgn t 1)) := fun f k t lev e hk hl ht => by
    rw [PF_step hk (by omega), e, g48 (b := 1) (fun h => (bd (k := 0) (a := 0)).1) zt0.1 (by omega) (by omega) hl ht, if_pos rfl]
  unfold sP
  by_cases k1 : k = 1
  · subst k1
    rw [PF_step hk (by omega), show own 1 0 = 1 from rfl, g48 (b := 20) (fun h => (bd (k := 0) (a := 0)).2.2.2.2.1) zt0.2.1 (by omega) (by omega) (by omega) (by omega), if_neg (by omega), if_neg (by omega), if_neg (by omega), if_neg (by omega), if_pos rfl]
    have := b0 f 0 (bgn t 20) (lev + 1) rfl (by omega) (by omega) (by show t.2 + 1 < _; omega)
    rw [this, zb2_some, if_pos rfl]
  · by_cases k4 : k = 4 ∨ k = 7
    · have e : own k 0 = 4 := by rcases k4 with rfl | rfl <;> rfl
      rw [PF_step hk (by omega), e, g48 (b := 50) (fun h => (bd (k := 0) (a := 0)).2.2.2.2.2.2.2.1) zt0.2.2.2.2.1 (by omega) (by omega) (by omega) (by omega), if_neg (by omega), if_neg (by omega), if_neg (by omega), if_neg (by omega), if_neg (by omega), if_neg (by omega), if_neg (by omega), if_pos rfl]
      have := b0 f 3 (bgn t 50) (lev + 1) rfl (by omega) (by omega) (by show t.2 + 1 < _; omega)
      rw [this, zb2_some, if_neg k1, if_pos k4]
    · have e : own k 0 = 0 := by
        show (if k = 1 then 1 else if k = 4 ∨ k = 7 then 4 else 0) = 0
        rw [if_neg k1, if_neg k4]
      rw [b0 (f + 1) k t lev e hk (by omega) (by omega), if_neg k1, if_neg k4]
theorem C_asks0 {K : Nat} (hK : K < 9) {k : Nat} (hk : k < 9) (e : own k 1 = 0) {f lev : Nat} (hl : lev ≤ 24) (ht : t.2 < 70000) (x : Int32) : zloop g_Acts_perform_0 (f + 3) (643, nI k, nI 1, x, nI lev, aH h (nI K) nm t) = some ((aP0 nm K x t).1, aH h (nI K) nm (aP0 nm K x t).2) := by
  rw [PF_step hk (by omega), e, g48 (b := 10) (fun h => (bd (k := 0) (a := 0)).2.1) zt0.1 (by omega) (by omega) (by omega) (by omega), if_neg (by omega), if_neg (by omega), if_pos rfl]
  rw [C_sends hK (f := f) (by omega) (by show t.2 + 1 < _; omega), zb2_some]
  rfl
theorem C_asks3 {K : Nat} (hK : K < 9) {k : Nat} (hk : k < 9) (e : own k 1 = 3) {f lev : Nat} (hl : lev ≤ 23) (ht : t.2 < 60000) (x : Int32) : zloop g_Acts_perform_0 (f + 4) (643, nI k, nI 1, x, nI lev, aH h (nI K) nm t) = some ((aP3 nm K x t).1, aH h (nI K) nm (aP3 nm K x t).2) := by
  rw [PF_step hk (by omega), e, g48 (b := 40) (fun h => (bd (k := 0) (a := 0)).2.2.2.2.2.2.1) zt0.2.2.2.1 (by omega) (by omega) (by omega) (by omega), if_neg (by omega), if_neg (by omega), if_neg (by omega), if_neg (by omega), if_neg (by omega), if_neg (by omega), if_pos rfl]
  rw [C_asks0 hK (k := 0) (by omega) rfl (f := f) (by omega) (by show t.2 + 1 < _; omega), zb2_some]
  rfl
theorem C_asks {K : Nat} (hK : K < 9) {k : Nat} (hk : k < 9) {f lev : Nat} (hl : lev ≤ 20) (ht : t.2 < 50000) (x : Int32) : zloop g_Acts_perform_0 (f + 5) (643, nI k, nI 1, x, nI lev, aH h (nI K) nm t) = some ((aP nm K k x t).1, aH h (nI K) nm (aP nm K k x t).2) := by
  unfold aP
  by_cases k7 : k = 7
  · subst k7
    rw [PF_step hk (by omega), show own 7 1 = 7 from rfl, g48 (b := 80) (fun h => (bd (k := 0) (a := 0)).2.2.2.2.2.2.2.2.2.2.2.1) zt0.2.2.2.2.2.2.2.1 (by omega) (by omega) (by omega) (by omega), if_neg (by omega), if_neg (by omega), if_neg (by omega), if_neg (by omega), if_neg (by omega), if_neg (by omega), if_neg (by omega), if_neg (by omega), if_neg (by omega), if_neg (by omega), if_neg (by omega), if_pos rfl]
    have n3 : (aP3 nm K x (bgn t 80)).2.2 ≤ t.2 + 1 + 4 := aP3_n
    rw [C_asks3 hK (k := 4) (by omega) rfl (f := f) (by omega) (by show t.2 + 1 < _; omega), zb2_some, aH_cv, C_sends (k := 4) (by omega) (f := f + 2) (by omega) (by omega), zb2_some, if_pos rfl]
    rfl
  · by_cases k3 : k = 3 ∨ k = 4 ∨ k = 5 ∨ k = 8
    · have e : own k 1 = 3 := by
        show (if k = 7 then 7 else if k = 3 ∨ k = 4 ∨ k = 5 ∨ k = 8 then 3 else 0) = 3
        rw [if_neg k7, if_pos k3]
      rw [if_neg k7, if_pos k3]
      exact C_asks3 hK hk e (f := f + 1) (by omega) (by omega) x
    · have e : own k 1 = 0 := by
        show (if k = 7 then 7 else if k = 3 ∨ k = 4 ∨ k = 5 ∨ k = 8 then 3 else 0) = 0
        rw [if_neg k7, if_neg k3]
      rw [if_neg k7, if_neg k3]
      exact C_asks0 hK hk e (f := f + 2) (by omega) (by omega) x
theorem C_owes0 {k : Nat} (hk : k < 9) (e : own k 2 = 0) {f lev : Nat} (hl : lev ≤ 24) (ht : t.2 < 70000) (x : Int32) : zloop g_Acts_perform_0 (f + 1) (643, nI k, nI 2, x, nI lev, aH h kd nm t) = some ((oP0 nm x t).1, aH h kd nm (oP0 nm x t).2) := by
  rw [PF_step hk (by omega), e, g48 (b := 11) (fun h => (bd (k := 0) (a := 0)).2.2.1) zt0.1 (by omega) (by omega) (by omega) (by omega), if_neg (by omega), if_neg (by omega), if_neg (by omega), if_pos rfl]
  rfl
theorem C_owes2 {K : Nat} (hK : K < 9) {f lev : Nat} (hl : lev ≤ 23) (ht : t.2 < 60000) (x : Int32) : zloop g_Acts_perform_0 (f + 4) (643, nI 2, nI 2, x, nI lev, aH h (nI K) nm t) = some ((oP2 nm K x t).1, aH h (nI K) nm (oP2 nm K x t).2) := by
  rw [PF_step (k := 2) (by omega) (by omega), show own 2 2 = 2 from rfl, g48 (b := 30) (fun h => (bd (k := 0) (a := 0)).2.2.2.2.2.1) zt0.2.2.1 (by omega) (by omega) (by omega) (by omega), if_neg (by omega), if_neg (by omega), if_neg (by omega), if_neg (by omega), if_neg (by omega), if_pos rfl]
  rw [C_owes0 (k := 0) (by omega) rfl (f := f + 2) (by omega) (by show t.2 + 1 < _; omega), zb2_some, aH_2, bind_some', aH_cv, C_sends hK (f := f + 1) (by omega) (by show t.2 + 1 + 1 < _; omega), zb2_some]
  rfl
theorem C_owes {K : Nat} (hK : K < 9) {k : Nat} (hk : k < 9) {f lev : Nat} (hl : lev ≤ 20) (ht : t.2 < 50000) (x : Int32) : zloop g_Acts_perform_0 (f + 5) (643, nI k, nI 2, x, nI lev, aH h (nI K) nm t) = some ((oP nm K k x t).1, aH h (nI K) nm (oP nm K k x t).2) := by
  unfold oP
  by_cases k2 : k = 2
  · subst k2
    rw [if_pos rfl]
    exact C_owes2 hK (f := f + 1) (by omega) (by omega) x
  · by_cases k5 : k = 5 ∨ k = 8
    · have e : own k 2 = 5 := by rcases k5 with rfl | rfl <;> rfl
      rw [PF_step hk (by omega), e, g48 (b := 61) (fun h => (bd (k := 0) (a := 0)).2.2.2.2.2.2.2.2.1) zt0.2.2.2.2.2.1 (by omega) (by omega) (by omega) (by omega), if_neg (by omega), if_neg (by omega), if_neg (by omega), if_neg (by omega), if_neg (by omega), if_neg (by omega), if_neg (by omega), if_neg (by omega), if_neg (by omega), if_pos rfl]
      rw [C_owes0 (k := 3) (by omega) rfl (f := f + 3) (by omega) (by show t.2 + 1 < _; omega), zb2_some, if_neg k2, if_pos k5]
    · by_cases k6 : k = 6
      · subst k6
        rw [PF_step hk (by omega), show own 6 2 = 6 from rfl, g48 (b := 70) (fun h => (bd (k := 0) (a := 0)).2.2.2.2.2.2.2.2.2.2.1) zt0.2.2.2.2.2.2.1 (by omega) (by omega) (by omega) (by omega), if_neg (by omega), if_neg (by omega), if_neg (by omega), if_neg (by omega), if_neg (by omega), if_neg (by omega), if_neg (by omega), if_neg (by omega), if_neg (by omega), if_neg (by omega), if_pos rfl]
        rw [C_owes2 hK (f := f) (by omega) (by show t.2 + 1 < _; omega), zb2_some, if_neg (by omega), if_neg (by omega), if_pos rfl]
      · have e : own k 2 = 0 := by
          show (if k = 2 then 2 else if k = 5 ∨ k = 8 then 5 else if k = 6 then 6 else 0) = 0
          rw [if_neg k2, if_neg k5, if_neg k6]
        rw [if_neg k2, if_neg k5, if_neg k6]
        exact C_owes0 hk e (f := f + 4) (by omega) (by omega) x
theorem C_tells0 {K : Nat} (hK : K < 9) {k : Nat} (hk : k < 9) (e : own k 3 = 0) {f lev : Nat} (hl : lev ≤ 18) (ht : t.2 < 40000) (x : Int32) : zloop g_Acts_perform_0 (f + 6) (643, nI k, nI 3, x, nI lev, aH h (nI K) nm t) = some ((tP0 nm K x t).1, aH h (nI K) nm (tP0 nm K x t).2) := by
  have n7 : (aP nm K K x (bgn t 2)).2.2 ≤ t.2 + 1 + 7 := aP_n
  rw [PF_step hk (by omega), e, g48 (b := 2) (fun h => (bd (k := 0) (a := 0)).2.2.2.1) zt0.1 (by omega) (by omega) (by omega) (by omega), if_neg (by omega), if_pos rfl]
  rw [C_asks hK hK (f := f) (by omega) (by show t.2 + 1 < _; omega), zb2_some, aH_2, bind_some', aH_cv, C_owes hK hK (f := f) (by omega) (by omega), zb2_some]
  rfl
theorem C_tells5 {K : Nat} (hK : K < 9) {f lev : Nat} (hl : lev ≤ 17) (ht : t.2 < 30000) (x : Int32) : zloop g_Acts_perform_0 (f + 7) (643, nI 5, nI 3, x, nI lev, aH h (nI K) nm t) = some ((tP5 nm K x t).1, aH h (nI K) nm (tP5 nm K x t).2) := by
  rw [PF_step (k := 5) (by omega) (by omega), show own 5 3 = 5 from rfl, g48 (b := 60) (fun h => (bd (k := 0) (a := 0)).2.2.2.2.2.2.2.2.2.1) zt0.2.2.2.2.2.1 (by omega) (by omega) (by omega) (by omega), if_neg (by omega), if_neg (by omega), if_neg (by omega), if_neg (by omega), if_neg (by omega), if_neg (by omega), if_neg (by omega), if_neg (by omega), if_pos rfl]
  rw [C_tells0 hK (k := 3) (by omega) rfl (f := f) (by omega) (by show t.2 + 1 < _; omega), zb2_some]
  rfl
theorem C_tells {K : Nat} (hK : K < 9) {k : Nat} (hk : k < 9) {f lev : Nat} (hl : lev ≤ 15) (ht : t.2 < 20000) (x : Int32) : zloop g_Acts_perform_0 (f + 8) (643, nI k, nI 3, x, nI lev, aH h (nI K) nm t) = some ((tP nm K k x t).1, aH h (nI K) nm (tP nm K k x t).2) := by
  unfold tP
  by_cases k5 : k = 5
  · subst k5
    rw [if_pos rfl]
    exact C_tells5 hK (f := f + 1) (by omega) (by omega) x
  · by_cases k8 : k = 8
    · subst k8
      rw [PF_step hk (by omega), show own 8 3 = 8 from rfl, g48 (b := 90) (fun h => (bd (k := 0) (a := 0)).2.2.2.2.2.2.2.2.2.2.2.2) zt0.2.2.2.2.2.2.2.2 (by omega) (by omega) (by omega) (by omega), if_neg (by omega), if_neg (by omega), if_neg (by omega), if_neg (by omega), if_neg (by omega), if_neg (by omega), if_neg (by omega), if_neg (by omega), if_neg (by omega), if_neg (by omega), if_neg (by omega), if_neg (by omega), if_pos rfl]
      rw [C_tells5 hK (f := f) (by omega) (by show t.2 + 1 < _; omega), zb2_some, if_neg (by omega), if_pos rfl]
    · have e : own k 3 = 0 := by
        show (if k = 5 then 5 else if k = 8 then 8 else 0) = 0
        rw [if_neg k5, if_neg k8]
      rw [if_neg k5, if_neg k8]
      exact C_tells0 hK hk e (f := f + 2) (by omega) (by omega) x
end ACT
