/-! THE BEGINNING -/
theorem g0_hi (fm : Nat) {j : Nat} (hj : 123 ≤ j) : g0 fm j = 0 := by
  unfold g0
  rw [if_neg (by omega), if_neg (by omega), if_neg (by omega), if_neg (by omega)]
theorem ztab1 {kd : Nat} (hkd : kd < 9) : ztab 1 (nI kd) = some (nI (fmo kd)) := by
  rcases (show kd = 0 ∨ kd = 1 ∨ kd = 2 ∨ kd = 3 ∨ kd = 4 ∨ kd = 5 ∨ kd = 6 ∨ kd = 7 ∨ kd = 8 by omega) with rfl | rfl | rfl | rfl | rfl | rfl | rfl | rfl | rfl <;> rfl
theorem s_isKind {kd : Nat} (hkd : kd < 9) (h : zH) : m_Home_isKind (nI kd) h = some (nI 1) := by
  have c : (9 ≤ kd) = False := eq_false (by omega)
  simp (disch := omega) only [m_Home_isKind, nI_lt0, if_false, nI_le_iff, c]
theorem s_begin77 {h : zH} {a : Nat} : ∀ (d j f : Nat) (g : Nat → Int32), 6 - j = d → j ≤ 6 → d < f → zloop (g_Rules_begin_77 a) f (nI j, zup h a (zI32 123 g)) = some (zup h a (zI32 123 (fun k => if 81 + j ≤ k ∧ k < 87 then -1 else g k))) := by
  intro d
  induction d with
  | zero =>
    intro j f g hd hj hf
    obtain ⟨f, rfl⟩ : ∃ k, f = k + 1 := ⟨f - 1, by omega⟩
    show g_Rules_begin_77 a _ (nI j, zup h a (zI32 123 g)) = _
    have c : (6 ≤ j) = True := eq_true (by omega)
    simp (disch := omega) only [g_Rules_begin_77, nI_le_iff, c, if_true]
    refine congrArg (fun z => some (zup h a (zI32 123 z))) (funext fun k => ?_)
    rw [if_neg (by omega)]
  | succ d ih =>
    intro j f g hd hj hf
    obtain ⟨f, rfl⟩ : ∃ k, f = k + 1 := ⟨f - 1, by omega⟩
    show g_Rules_begin_77 a (zloop (g_Rules_begin_77 a) f) (nI j, zup h a (zI32 123 g)) = _
    have c : (6 ≤ j) = False := eq_false (by omega)
    simp (disch := omega) only [g_Rules_begin_77, nI_le_iff, c, if_false, zsI, zS32_st, bind_some', nI_add]
    rw [ih (j + 1) f _ (by omega) (by omega) (by omega)]
    refine congrArg (fun z => some (zup h a (zI32 123 z))) (funext fun k => ?_)
    unfold upd
    by_cases e : k = 81 + j
    · rw [if_neg (by omega), if_pos e, if_pos (by omega)]
    · by_cases e2 : 81 + j ≤ k ∧ k < 87
      · rw [if_pos (by omega), if_pos e2]
      · rw [if_neg (by omega), if_neg e, if_neg e2]
def b62 (fm : Nat) (g : Nat → Int32) : Nat → Int32 := if fm = 2 then (fun k => if 81 + 0 ≤ k ∧ k < 87 then -1 else upd g 87 (nI 1) k) else g
theorem s_b62 {h : zH} {a r kd fm : Nat} {g : Nat → Int32} (hr : h r = ruE kd fm) (hfm : fm < 6) (q : r ≠ a) : g_Rules_begin_62 r a (zup h a (zI32 123 g)) = some (zup h a (zI32 123 (b62 fm g))) := by
  unfold b62
  by_cases f2 : fm = 2
  · have z := zN_big
    simp (disch := omega) only [g_Rules_begin_62, rl_fam hr q, bind_some', nI_eq_iff, eq_true f2, if_true, zsI, zS32_st]
    exact s_begin77 6 0 zN _ (by omega) (by omega) (by omega)
  · simp (disch := omega) only [g_Rules_begin_62, rl_fam hr q, bind_some', nI_eq_iff, eq_false f2, if_false]
def b0 (g : Nat → Int32) : Nat → Int32 := fun k => if k < 123 then nI 0 else g k
theorem b62_g0 {fm : Nat} {g : Nat → Int32} (hg : ∀ j, 123 ≤ j → g j = 0) : b62 fm (if fm = 1 then upd (upd (upd (upd (b0 g) 0 (nI 1)) 6 (nI 1)) 68 (nI 64)) 74 (nI 64) else upd (upd (b0 g) 0 (nI 1)) 6 (nI 1)) = g0 fm := by
  funext k
  have hb : b0 g k = 0 := by
    unfold b0
    by_cases k123 : k < 123
    · rw [if_pos k123]; exact nI_0
    · rw [if_neg k123]; exact hg k (by omega)
  unfold b62 g0
  by_cases f1 : fm = 1
  · rw [if_neg (by omega), if_pos f1]
    unfold upd
    by_cases a0 : k = 0 ∨ k = 6
    · rw [if_pos a0, if_neg (by omega), if_neg (by omega)]
      by_cases a6 : k = 6
      · rw [if_pos a6]
      · rw [if_neg a6, if_pos (by omega)]
    · rw [if_neg a0]
      by_cases b : k = 68 ∨ k = 74
      · rw [if_pos (show fm = 1 ∧ (k = 68 ∨ k = 74) from ⟨f1, b⟩)]
        by_cases c : k = 74
        · rw [if_pos c]
        · rw [if_neg c, if_pos (by omega)]
      · rw [if_neg (by omega), if_neg (by omega), if_neg (by omega), if_neg (by omega), if_neg (by omega), if_neg (by omega), if_neg (by omega)]
        exact hb
  · by_cases f2 : fm = 2
    · rw [if_pos f2, if_neg f1]
      show (if _ then _ else _) = _
      by_cases a0 : k = 0 ∨ k = 6
      · rw [if_pos a0, if_neg (by omega)]
        unfold upd
        rw [if_neg (by omega)]
        by_cases a6 : k = 6
        · rw [if_pos a6]
        · rw [if_neg a6, if_pos (by omega)]
      · rw [if_neg a0, if_neg (by omega : ¬ (fm = 1 ∧ (k = 68 ∨ k = 74)))]
        by_cases a87 : k = 87
        · rw [if_neg (by omega), if_pos ⟨f2, a87⟩, a87]
          rfl
        · rw [if_neg (by omega : ¬ (fm = 2 ∧ k = 87))]
          by_cases b : 81 ≤ k ∧ k < 87
          · rw [if_pos (by omega), if_pos ⟨f2, b⟩]
          · rw [if_neg (by omega), if_neg (by omega)]
            unfold upd
            rw [if_neg a87, if_neg (by omega), if_neg (by omega)]
            exact hb
    · rw [if_neg f2, if_neg f1]
      unfold upd
      by_cases a0 : k = 0 ∨ k = 6
      · rw [if_pos a0]
        by_cases a6 : k = 6
        · rw [if_pos a6]
        · rw [if_neg a6, if_pos (by omega)]
      · rw [if_neg a0, if_neg (by omega), if_neg (by omega), if_neg (by omega), if_neg (by omega), if_neg (by omega)]
        exact hb
theorem s_begin {h : zH} {a r kd : Nat} {k0 f0 : Int32} {g : Nat → Int32} (hr : h r = .inl (3, [.ref 2, .int k0, .int f0])) (q : r ≠ a) (hkd : kd < 9) (hg : ∀ j, 123 ≤ j → g j = 0) : m_Rules_begin r a (nI kd) (zup h a (zI32 123 g)) = some (zup (zup h r (ruE kd (fmo kd))) a (zI32 123 (g0 (fmo kd)))) := by
  have hk := fmo_lt kd
  have w1 : zwI (zup h a (zI32 123 g)) r 3 1 (nI kd) = some (zup (zup h r (.inl (3, [.ref 2, .int (nI kd), .int f0]))) a (zI32 123 g)) := by
    rw [zwI_of (fs := [.ref 2, .int k0, .int f0]) (by rw [zup_ne q, hr]) (by simp), zup_comm (fun z => q z.symm)]
    rfl
  have w2 : zwI (zup (zup h r (.inl (3, [.ref 2, .int (nI kd), .int f0]))) a (zI32 123 g)) r 3 2 (nI (fmo kd)) = some (zup (zup h r (ruE kd (fmo kd))) a (zI32 123 g)) := by
    rw [zwI_of (fs := [.ref 2, .int (nI kd), .int f0]) (by rw [zup_ne q, zup_eq]) (by simp), zup_comm (fun z => q z.symm), zup_zup]
    rfl
  have r1 : zrI (zup (zup h r (.inl (3, [.ref 2, .int (nI kd), .int f0]))) a (zI32 123 g)) r 3 1 = some (nI kd) := by
    rw [zrI_ne q]
    exact zrI_of (zup_eq _ _ _) rfl
  have r2 : ∀ e : zE, zrI (zup (zup h r (ruE kd (fmo kd))) a e) r 3 2 = some (nI (fmo kd)) := fun e => rl_fam (zup_eq _ _ _) q e
  have n1 := nI1_0
  have sf : m_Fill_I a (nI 0) (zup (zup h r (ruE kd (fmo kd))) a (zI32 123 g)) = some (zup (zup h r (ruE kd (fmo kd))) a (zI32 123 (b0 g))) := s_fill (by omega) (nI 0)
  rw [← b62_g0 (fm := fmo kd) hg]
  by_cases f1 : fmo kd = 1
  · simp (disch := omega) only [m_Rules_begin, s_isKind hkd, bind_some', n1, if_false, g_Rules_begin_13, w1, r1, ztab1 hkd, w2, sf, zsI, zS32_st, r2, nI_eq_iff, eq_true f1, if_true]
    exact s_b62 (zup_eq _ _ _) hk q
  · simp (disch := omega) only [m_Rules_begin, s_isKind hkd, bind_some', n1, if_false, g_Rules_begin_13, w1, r1, ztab1 hkd, w2, sf, zsI, zS32_st, r2, nI_eq_iff, eq_false f1]
    exact s_b62 (zup_eq _ _ _) hk q
theorem IV_g0 {n fm : Nat} (hn0 : 0 < n) : IV fm n 0 0 (g0 fm) := by
  have e0 : ∀ j, j ≠ 0 → j ≠ 6 → j ≠ 68 → j ≠ 74 → j ≠ 87 → ¬ (81 ≤ j ∧ j < 87) → g0 fm j = 0 := fun j a b c d e f => by
    unfold g0
    rw [if_neg (by omega), if_neg (by omega), if_neg (by omega), if_neg (by omega)]
  have ez : ∀ j, j ≠ 0 → j ≠ 6 → j ≠ 68 → j ≠ 74 → j ≠ 87 → ¬ (81 ≤ j ∧ j < 87) → g0 fm j = nI 0 := fun j a b c d e f => (e0 j a b c d e f).trans nI_0.symm
  have eA : g0 fm 0 = nI 1 := rfl
  refine ⟨⟨0, by omega, ez _ (by omega) (by omega) (by omega) (by omega) (by omega) (by omega), fun i hi => by omega, fun i a b => ⟨e0 _ (by omega) (by omega) (by omega) (by omega) (by omega) (by omega), e0 _ (by omega) (by omega) (by omega) (by omega) (by omega) (by omega), e0 _ (by omega) (by omega) (by omega) (by omega) (by omega) (by omega)⟩⟩, ⟨0, by omega, ez _ (by omega) (by omega) (by omega) (by omega) (by omega) (by omega), fun i hi => by omega, fun i a b => ⟨e0 _ (by omega) (by omega) (by omega) (by omega) (by omega) (by omega), e0 _ (by omega) (by omega) (by omega) (by omega) (by omega) (by omega), e0 _ (by omega) (by omega) (by omega) (by omega) (by omega) (by omega)⟩⟩, ⟨fun hh h6 => ?_, fun hh a b => e0 _ (by omega) (by omega) (by omega) (by omega) (by omega) (by omega), fun hh h6 => ⟨0, by omega, ez _ (by omega) (by omega) (by omega) (by omega) (by omega) (by omega)⟩⟩, fun j hj hr => ?_, fun f2 => ⟨fun hh h6 => ?_, fun hh a b c => ?_, fun hh a b => ?_⟩, fun f4 => ⟨fun hh h6 => Or.inl (e0 _ (by omega) (by omega) (by omega) (by omega) (by omega) (by omega)), fun i i8 => Or.inl (e0 _ (by omega) (by omega) (by omega) (by omega) (by omega) (by omega))⟩, fun f1 => ?_, Or.inl (e0 _ (by omega) (by omega) (by omega) (by omega) (by omega) (by omega)), fun j hj => g0_hi fm hj⟩
  · by_cases z : hh = 0
    · subst z; exact Or.inr eA
    · exact Or.inl (e0 _ (by omega) (by omega) (by omega) (by omega) (by omega) (by omega))
  · unfold rel at hr
    unfold g0
    rw [if_neg (by omega), if_neg (by omega), if_neg (by omega), if_neg (by omega)]
  · by_cases z : hh = 0
    · subst z; subst f2; exact Or.inr rfl
    · exact Or.inl (e0 _ (by omega) (by omega) (by omega) (by omega) (by omega) (by omega))
  · exact absurd ((e0 (87 + hh) (by omega) (by omega) (by omega) (by omega) (by omega) (by omega)).symm.trans c) (by decide)
  · subst f2
    unfold g0
    rw [if_neg (by omega), if_neg (by omega), if_neg (by omega), if_pos (by omega)]
  · subst f1
    refine ⟨fun hh => if hh = 0 then 64 else 0, fun _ => 0, fun _ => 0, 64, fun hh h6 => ?_, fun i i8 => ez _ (by omega) (by omega) (by omega) (by omega) (by omega) (by omega), fun i i8 => ez _ (by omega) (by omega) (by omega) (by omega) (by omega) (by omega), rfl, by simp [s6, s8], by omega⟩
    by_cases z : hh = 0
    · subst z; rfl
    · show _ = nI (if hh = 0 then 64 else 0)
      rw [if_neg z]
      exact ez _ (by omega) (by omega) (by omega) (by omega) (by omega) (by omega)
