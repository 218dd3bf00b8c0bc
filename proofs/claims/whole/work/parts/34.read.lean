/-! THE CLASS READS A PROGRAM -/
abbrev huE (n : Nat) : zE := .inl (1, [.ref 3, .ref 10, .ref 17, .int (nI n)])
def hr (h : zH) (n : Nat) (S G : Nat → Int32) : zH := zup (zup h (11 + n) (zI32 62 S)) (4 + n) (zI32 270 G)
/-- the class's huts -/
def HB (n : Nat) (h : zH) : Prop := h 2 = huE n ∧ (∃ g, h 3 = zRf 5 6 g ∧ ∀ k, k < 6 → g k = some (4 + k)) ∧ (∃ g, h 10 = zRf 5 6 g ∧ ∀ k, k < 6 → g k = some (11 + k))
section RDS
variable {h : zH} {n len : Nat} {S G : Nat → Int32} {T : Nat → Nat} {Tt Ls : Nat → Int32}
theorem HB_hr (H : HB n h) (n6 : n < 6) : HB n (hr h n S G) := by
  obtain ⟨a, ⟨g, b, c⟩, g', d, e⟩ := H
  unfold hr
  refine ⟨?_, ⟨g, ?_, c⟩, g', ?_, e⟩
  · rw [zup_ne (by omega), zup_ne (by omega)]; exact a
  · rw [zup_ne (by omega), zup_ne (by omega)]; exact b
  · rw [zup_ne (by omega), zup_ne (by omega)]; exact d
theorem HB_rd (H : HB n h) : zcls h 2 = 1 ∧ zrI h 2 1 3 = some (nI n) ∧ zrR h 2 1 0 = some 3 ∧ zrR h 2 1 1 = some 10 ∧ zrR h 2 1 2 = some 17 ∧ (∀ k, k < 6 → zaR 5 h 3 (nI k) = some (4 + k)) ∧ ∀ k, k < 6 → zaR 5 h 10 (nI k) = some (11 + k) := by
  obtain ⟨a, ⟨g, b, c⟩, g', d, e⟩ := H
  exact ⟨zcls_of a, zrI_of a rfl, zrR_of a rfl, zrR_of a rfl, zrR_of a rfl, fun k q => zaR_of b q (by omega) (c k q), fun k q => zaR_of d q (by omega) (e k q)⟩
theorem hr_G {x : Nat → Int32} : zup (hr h n S G) (4 + n) (zI32 270 x) = hr h n S x := by
  unfold hr
  rw [zup_zup]
theorem hr_S {x : Nat → Int32} (n6 : n < 6) : zup (hr h n S G) (11 + n) (zI32 62 x) = hr h n x G := by
  unfold hr
  rw [zup_comm (by omega), zup_zup]
theorem hr_sG {j : Nat} (q : j < 270) (x : Int32) : zsI (hr h n S G) (4 + n) (nI j) x = some (hr h n S (upd G j x)) := by
  rw [zsI, zS32_of (h := hr h n S G) (a := 4 + n) (g := G) (n := 270) (by unfold hr; exact zup_eq _ _ _) q (by omega), hr_G]
theorem hr_sS {j : Nat} (n6 : n < 6) (q : j < 62) (x : Int32) : zsI (hr h n S G) (11 + n) (nI j) x = some (hr h n (upd S j x) G) := by
  rw [zsI, zS32_of (h := hr h n S G) (a := 11 + n) (g := S) (n := 62) (by unfold hr; rw [zup_ne (by omega), zup_eq]) q (by omega), hr_S n6]
theorem s_addW_l (H : HB n h) (n6 : n < 6) {w t x : Nat} (hw : w + t ≤ 270) : ∀ (d j f : Nat) (G : Nat → Int32), t - j = d → j ≤ t → d < f → zloop (g_Huts_addWords_3 2 (nI w) (nI x) (nI t)) f (nI j, hr h n S G) = some (nI (w + t), hr h n S (fun k => if w + j ≤ k ∧ k < w + t then nI x else G k)) := by
  intro d
  induction d with
  | zero =>
    intro j f G hd hj hf
    obtain ⟨f, rfl⟩ : ∃ k, f = k + 1 := ⟨f - 1, by omega⟩
    show g_Huts_addWords_3 2 (nI w) (nI x) (nI t) _ (nI j, hr h n S G) = _
    have c : (t ≤ j) = True := eq_true (by omega)
    have c2 : (270 < w + t) = False := eq_false (by omega)
    have e : (fun k => if w + j ≤ k ∧ k < w + t then nI x else G k) = G := funext fun k => if_neg (by omega)
    rw [e]
    simp (disch := omega) only [g_Huts_addWords_3, nI_le_iff, c, if_true, nI_add, nI_lt_iff, c2, if_false]
  | succ d ih =>
    intro j f G hd hj hf
    obtain ⟨f, rfl⟩ : ∃ k, f = k + 1 := ⟨f - 1, by omega⟩
    obtain ⟨-, e1, e2, -, -, e3, -⟩ := HB_rd (HB_hr (S := S) (G := G) H n6)
    show g_Huts_addWords_3 2 (nI w) (nI x) (nI t) (zloop (g_Huts_addWords_3 2 (nI w) (nI x) (nI t)) f) (nI j, hr h n S G) = _
    have c : (t ≤ j) = False := eq_false (by omega)
    have c2 : (270 ≤ w + j) = False := eq_false (by omega)
    simp (disch := omega) only [g_Huts_addWords_3, nI_le_iff, c, if_false, nI_add, c2, e1, e2, e3, bind_some', hr_sG]
    rw [ih (j + 1) f _ (by omega) (by omega) (by omega)]
    refine congrArg (fun z => some (nI (w + t), hr h n S z)) (funext fun k => ?_)
    unfold upd
    by_cases a : k = w + j
    · rw [if_neg (by omega), if_pos a, if_pos (by omega)]
    · by_cases b : w + j ≤ k ∧ k < w + t
      · rw [if_pos (by omega), if_pos b]
      · rw [if_neg (by omega), if_neg a, if_neg b]
def adG (G : Nat → Int32) (w t x : Nat) : Nat → Int32 := fun k => if w + 0 ≤ k ∧ k < w + t then nI x else G k
theorem s_addW (H : HB n h) (n6 : n < 6) {w t x : Nat} (hw : w + t ≤ 270) : m_Huts_addWords 2 (nI w) (nI x) (nI t) (hr h n S G) = some (nI (w + t), hr h n S (adG G w t x)) := by
  have z := zN_big
  exact s_addW_l H n6 hw t 0 zN G rfl (by omega) (by omega)
/-- the rows of a hut that is read, so far -/
def JR (T : Nat → Nat) (p q : Nat) (S G : Nat → Int32) : Prop := (∀ l, l ≤ q → S l = nI (WS T l p)) ∧ ∀ l, l ≤ LN T p → ∀ i x, GO T (nI l) i p = some x → G (WS T l p + i) = nI x
theorem JR_letter {p : Nat} (hp : p < 60) (hJ : JR T p (LN T p) S G) (hc : ¬ nL (T p)) : JR T (p + 1) (LN T (p + 1)) S (adG G (WT T p) (ML T p) (T p - 97)) := by
  have c59 : ¬ T p = 59 := fun w => hc (Or.inl w)
  have eL : LN T (p + 1) = LN T p := if_neg c59
  have hl := LN_le (T := T) p
  have wl := WT_line (T := T) (by omega : p < 900)
  refine ⟨fun l q => ?_, fun l q i x hx => ?_⟩
  · rw [eL] at q
    rw [WS_old q]
    exact hJ.1 l q
  · rw [eL] at q
    rw [WS_old q]
    rcases e : GO T (nI l) i p with _ | y
    · rw [GO_s0 e] at hx
      split at hx
      · rename_i c
        have el : LN T p = l := (nI_eq_iff (by omega) (by omega)).mp c.2.1
        subst el
        have := Option.some.inj hx
        unfold adG
        rw [if_pos (by omega), this]
      · cases hx
    · rw [GO_s1 e] at hx
      have hlt := (GO_lt p).mp (show Option.isSome (GO T (nI l) i p) = true by rw [e]; rfl)
      have s := WS_succ (T := T) (by omega : l < 1000) p (by omega)
      have mo : WS T (l + 1) p ≤ WT T p := WS_mono (by omega) p
      unfold adG
      rw [if_neg (by omega)]
      exact hJ.2 l q i x (e.trans hx)
theorem JR_same {p : Nat} (hp : p < 60) (hJ : JR T p (LN T p) S G) (hc : nL (T p)) (h59 : ¬ T p = 59) : JR T (p + 1) (LN T (p + 1)) S G := by
  have eL : LN T (p + 1) = LN T p := if_neg h59
  refine ⟨fun l q => ?_, fun l q i x hx => ?_⟩
  · rw [eL] at q
    rw [WS_old q]
    exact hJ.1 l q
  · rw [eL] at q
    rw [WS_old q]
    rcases e : GO T (nI l) i p with _ | y
    · rw [GO_s0 e, if_neg (fun w => w.1 hc)] at hx
      cases hx
    · rw [GO_s1 e] at hx
      exact hJ.2 l q i x (e.trans hx)
theorem JR_line {p : Nat} (hp : p < 60) (hJ : JR T p (LN T p) S G) (h59 : T p = 59) : JR T (p + 1) (LN T (p + 1)) (upd S (LN T p + 1) (nI (WT T p))) G := by
  have eL : LN T (p + 1) = LN T p + 1 := if_pos h59
  have hc : nL (T p) := Or.inl h59
  have hs : ∀ l, WS T l (p + 1) = WS T l p := fun l => if_pos hc
  have hl := LN_le (T := T) p
  refine ⟨fun l q => ?_, fun l q i x hx => ?_⟩
  · rw [eL] at q
    rw [hs]
    by_cases e : l = LN T p + 1
    · rw [e, upd_eq]
      rfl
    · rw [upd_ne e]
      exact hJ.1 l (by omega)
  · rw [hs]
    rcases e : GO T (nI l) i p with _ | y
    · rw [GO_s0 e, if_neg (fun w => w.1 hc)] at hx
      cases hx
    · rw [GO_s1 e] at hx
      rw [eL] at q
      by_cases e2 : l = LN T p + 1
      · have hlt := (GO_lt p).mp (show Option.isSome (GO T (nI l) i p) = true by rw [e]; rfl)
        have : WC T (nI l) p = 0 := WC_hi p fun j hj w => by
          have := LN_mono (T := T) hj
          have := LN_le (T := T) j
          have := (nI_eq_iff (by omega) (by omega)).mp w
          omega
        omega
      · exact hJ.2 l (by omega) i x (e.trans hx)
theorem s_rd_step {p : Nat} (H : HB n h) (n6 : n < 6) (h1 : h 1 = zI32 60 Tt) (hT : ∀ k, k < 60 → Tt k = nI (T k) ∧ T k < 256) (hp : p < len) (hl : len ≤ 60) (hv : ∀ j, j < p → okc T n j) (hJ : JR T p (LN T p) S G) (K : (Int32 × Int32 × Int32 × Int32 × zH) → Option (Int32 × zH)) :
    (¬ okc T n p → g_Huts_read_38 2 1 (nI len) K (nI (LN T p), nI (WT T p), nI (TM T p), nI p, hr h n S G) = some (nI p, hr h n S G)) ∧ (okc T n p → ∃ S' G', S' 0 = S 0 ∧ JR T (p + 1) (LN T (p + 1)) S' G' ∧ g_Huts_read_38 2 1 (nI len) K (nI (LN T p), nI (WT T p), nI (TM T p), nI p, hr h n S G) = K (nI (LN T (p + 1)), nI (WT T (p + 1)), nI (TM T (p + 1)), nI (p + 1), hr h n S' G')) := by
  obtain ⟨hcv, e1, e2, e2', -, e3, e3'⟩ := HB_rd (HB_hr (S := S) (G := G) H n6)
  have cv : ∀ {α : Type} (o : Option α), zcv (hr h n S G) 2 1 o = o := fun o => zcv_of hcv
  have c : (len ≤ p) = False := eq_false (by omega)
  obtain ⟨eT, t256⟩ := hT p (by omega)
  have l1 : zaI (hr h n S G) 1 (nI p) = some (nI (T p)) := by
    rw [zaI, zA32_of (g := Tt) (n := 60) (by unfold hr; rw [zup_ne (by omega), zup_ne (by omega)]; exact h1) (by omega) (by omega), eT]
  have tm := TM_le (T := T) p
  have ln := LN_le (T := T) p
  have bd := WT_bound (T := T) (own := n) p hv
  have wle : WT T p ≤ 270 := by omega
  have tz : (nI (TM T p) = 0) = (TM T p = 0) := nI_eq0 (by omega)
  by_cases a : ltr n (T p)
  · refine ⟨fun w => absurd (Or.inl a) w, fun _ => ?_⟩
    obtain ⟨a1, a2, a3⟩ := a
    have hc : ¬ nL (T p) := fun w => by rcases w with w | w <;> omega
    have c59 : ¬ T p = 59 := by omega
    have es : nI (T p) - nI 97 = nI (T p - 97) := nI_subn a1
    have cs : (6 ≤ T p - 97) = False := eq_false (by omega)
    have cn : (T p - 97 = n) = False := eq_false a3
    have eL : LN T (p + 1) = LN T p := if_neg c59
    have eM : TM T (p + 1) = 0 := if_neg (fun w => hc (Or.inr w))
    have eW : WT T (p + 1) = WT T p + ML T p := by rw [WT_succ, if_neg hc]
    have bd2 := WT_bound (T := T) (own := n) (p + 1) (fun j hj => by
      by_cases e : j = p
      · rw [e]; exact Or.inl ⟨a1, a2, a3⟩
      · exact hv j (by omega))
    have wl : WT T p + ML T p ≤ 270 := by rw [← eW]; omega
    refine ⟨S, adG G (WT T p) (ML T p) (T p - 97), rfl, JR_letter (by omega) hJ hc, ?_⟩
    rw [eL, eM, eW]
    by_cases z : TM T p = 0
    · have em : ML T p = 1 := if_pos z
      rw [em] at wl ⊢
      simp (disch := omega) only [g_Huts_read_38, nI_le_iff, c, if_false, l1, bind_some', es, nI_lt0, cs, e1, nI_eq_iff, cn, tz, eq_true z, if_true, cv, s_addW H n6 wl, zb2_some, nI_add]
    · have em : ML T p = TM T p := if_neg z
      rw [em] at wl ⊢
      simp (disch := omega) only [g_Huts_read_38, nI_le_iff, c, if_false, l1, bind_some', es, nI_lt0, cs, e1, nI_eq_iff, cn, tz, eq_false z, cv, s_addW H n6 wl, zb2_some, nI_add]
  · have to105 : g_Huts_read_38 2 1 (nI len) K (nI (LN T p), nI (WT T p), nI (TM T p), nI p, hr h n S G) = g_Huts_read_105 2 1 (nI len) (nI (LN T p)) (nI (WT T p)) (nI (TM T p)) (nI p) (nI (T p)) (hr h n S G) K := by
      by_cases b1 : T p < 97
      · have := eq_true (pk_sneg (a := T p) (b := 97) (by omega) b1)
        simp (disch := omega) only [g_Huts_read_38, nI_le_iff, c, if_false, l1, bind_some', this, if_true]
      · have es : nI (T p) - nI 97 = nI (T p - 97) := nI_subn (by omega)
        by_cases b2 : 6 ≤ T p - 97
        · simp (disch := omega) only [g_Huts_read_38, nI_le_iff, c, if_false, l1, bind_some', es, nI_lt0, eq_true b2, if_true]
        · have b3 : T p - 97 = n := by
            rcases Nat.decEq (T p - 97) n with q | q
            · exact absurd ⟨by omega, by omega, q⟩ a
            · exact q
          simp (disch := omega) only [g_Huts_read_38, nI_le_iff, c, if_false, l1, bind_some', es, nI_lt0, eq_false b2, e1, nI_eq_iff, eq_true b3, if_true]
    rw [to105]
    by_cases b : T p = 59
    · by_cases z : TM T p = 0
      · refine ⟨fun w => absurd (Or.inr ⟨Or.inl b, z⟩) w, fun _ => ?_⟩
        have eL : LN T (p + 1) = LN T p + 1 := if_pos b
        have eM : TM T (p + 1) = 0 := if_neg (fun w => by obtain ⟨x, y⟩ := w; omega)
        have eW : WT T (p + 1) = WT T p := by rw [WT_succ, if_pos (Or.inl b)]
        refine ⟨_, G, upd_ne (by omega), JR_line (by omega) hJ b, ?_⟩
        rw [eL, eM, eW, z]
        simp (disch := omega) only [g_Huts_read_105, nI_eq_iff, eq_true b, if_true, nI0_0, e2', e1, e3', bind_some', nI_add, hr_sS]
      · refine ⟨fun _ => ?_, fun w => ?_⟩
        · have d1 : (T p < 50) = False := eq_false (by omega)
          have d2 : (57 < T p) = True := eq_true (by omega)
          simp (disch := omega) only [g_Huts_read_105, nI_eq_iff, eq_true b, if_true, tz, eq_false z, if_false, g_Huts_read_136, nI_lt_iff, d1, d2]
        · rcases w with w | w
          · exact absurd w a
          · exact absurd w.2 z
    · by_cases d : isD (T p)
      · obtain ⟨d1, d2⟩ := d
        have x1 : (T p < 50) = False := eq_false (by omega)
        have x2 : (57 < T p) = False := eq_false (by omega)
        have es : nI (T p) - nI 48 = nI (T p - 48) := nI_subn (by omega)
        by_cases z : TM T p = 0
        · refine ⟨fun w => absurd (Or.inr ⟨Or.inr ⟨d1, d2⟩, z⟩) w, fun _ => ?_⟩
          have eL : LN T (p + 1) = LN T p := if_neg b
          have eM : TM T (p + 1) = T p - 48 := if_pos ⟨d1, d2⟩
          have eW : WT T (p + 1) = WT T p := by rw [WT_succ, if_pos (Or.inr ⟨d1, d2⟩)]
          refine ⟨S, G, rfl, JR_same (by omega) hJ (Or.inr ⟨d1, d2⟩) b, ?_⟩
          rw [eL, eM, eW]
          simp (disch := omega) only [g_Huts_read_105, nI_eq_iff, eq_false b, if_false, g_Huts_read_136, nI_lt_iff, x1, x2, tz, eq_true z, if_true, es, nI_add]
        · refine ⟨fun _ => ?_, fun w => ?_⟩
          · simp (disch := omega) only [g_Huts_read_105, nI_eq_iff, eq_false b, if_false, g_Huts_read_136, nI_lt_iff, x1, x2, tz, eq_false z]
          · rcases w with w | w
            · exact absurd w a
            · exact absurd w.2 z
      · refine ⟨fun _ => ?_, fun w => ?_⟩
        · by_cases x1 : T p < 50
          · simp (disch := omega) only [g_Huts_read_105, nI_eq_iff, eq_false b, if_false, g_Huts_read_136, nI_lt_iff, eq_true x1, if_true]
          · have x2 : 57 < T p := by
              rcases Nat.lt_or_ge 57 (T p) with q | q
              · exact q
              · exact absurd ⟨by omega, q⟩ d
            simp (disch := omega) only [g_Huts_read_105, nI_eq_iff, eq_false b, if_false, g_Huts_read_136, nI_lt_iff, eq_false x1, eq_true x2, if_true]
        · rcases w with w | w
          · exact absurd w a
          · rcases w.1 with w | w
            · exact absurd w b
            · exact absurd w d
def rdF (h : zH) (n : Nat) (S G Ls : Nat → Int32) (L : Nat) : zH := zup (zup (hr h n S G) 17 (zI32 6 (upd Ls n (nI L)))) 2 (huE (n + 1))
theorem s_rd_end (H : HB n h) (n6 : n < 6) (h17 : h 17 = zI32 6 Ls) (hl : len ≤ 60) (hJ : JR T len (LN T len) S G) (hwt : WT T len ≤ 270) (K : (Int32 × Int32 × Int32 × Int32 × zH) → Option (Int32 × zH)) :
    (¬ TM T len = 0 → g_Huts_read_38 2 1 (nI len) K (nI (LN T len), nI (WT T len), nI (TM T len), nI len, hr h n S G) = some (nI len, hr h n S G)) ∧ (TM T len = 0 → ∃ S', JR T len (LN T len + 1) S' G ∧ g_Huts_read_38 2 1 (nI len) K (nI (LN T len), nI (WT T len), nI (TM T len), nI len, hr h n S G) = some (-1, rdF h n S' G Ls (LN T len + 1))) := by
  have tm := TM_le (T := T) len
  have ln := LN_le (T := T) len
  have c : (len ≤ len) = True := eq_true (Nat.le_refl _)
  have tz : (nI (TM T len) = 0) = (TM T len = 0) := nI_eq0 (by omega)
  refine ⟨fun z => ?_, fun z => ?_⟩
  · simp (disch := omega) only [g_Huts_read_38, nI_le_iff, c, if_true, tz, eq_false z, if_false]
  · refine ⟨upd S (LN T len + 1) (nI (WT T len)), ⟨fun l q => ?_, hJ.2⟩, ?_⟩
    · by_cases e : l = LN T len + 1
      · rw [e, upd_eq]
        rfl
      · rw [upd_ne e]
        exact hJ.1 l (by omega)
    · obtain ⟨-, e1, e2, e2', -, e3, e3'⟩ := HB_rd (HB_hr (S := S) (G := G) H n6)
      obtain ⟨-, f1, f2, f2', f2'', f3, f3'⟩ := HB_rd (HB_hr (S := upd S (LN T len + 1) (nI (WT T len))) (G := G) H n6)
      have l17 : (hr h n (upd S (LN T len + 1) (nI (WT T len))) G) 17 = zI32 6 Ls := by
        unfold hr
        rw [zup_ne (by omega), zup_ne (by omega)]
        exact h17
      have s17 : ∀ x, zsI (hr h n (upd S (LN T len + 1) (nI (WT T len))) G) 17 (nI n) x = some (zup (hr h n (upd S (LN T len + 1) (nI (WT T len))) G) 17 (zI32 6 (upd Ls n x))) := fun x => by rw [zsI, zS32_of l17 n6 (by omega)]
      have l2 : ∀ x, zup (hr h n (upd S (LN T len + 1) (nI (WT T len))) G) 17 x 2 = huE n := fun x => by
        rw [zup_ne (by omega)]
        exact (HB_hr (S := upd S (LN T len + 1) (nI (WT T len))) (G := G) H n6).1
      have r3 : ∀ x, zrI (zup (hr h n (upd S (LN T len + 1) (nI (WT T len))) G) 17 x) 2 1 3 = some (nI n) := fun x => zrI_of (l2 x) rfl
      have w3 : ∀ x y, zwI (zup (hr h n (upd S (LN T len + 1) (nI (WT T len))) G) 17 x) 2 1 3 (nI y) = some (zup (zup (hr h n (upd S (LN T len + 1) (nI (WT T len))) G) 17 x) 2 (huE y)) := fun x y => zwI_of (l2 x) (by simp)
      simp (disch := omega) only [g_Huts_read_38, nI_le_iff, c, if_true, tz, eq_true z, e2', e1, e3', bind_some', nI_add, hr_sS, f2'', f1, s17, r3, w3]
      rfl
theorem s_rd_l (H : HB n h) (n6 : n < 6) (h1 : h 1 = zI32 60 Tt) (hT : ∀ k, k < 60 → Tt k = nI (T k) ∧ T k < 256) (h17 : h 17 = zI32 6 Ls) (hl : len ≤ 60) : ∀ (d p f : Nat) (S G : Nat → Int32), len - p = d → p ≤ len → d < f → (∀ j, j < p → okc T n j) → JR T p (LN T p) S G →
    (∀ q, flt T n d p = some q → ∃ S' G', S' 0 = S 0 ∧ q ≤ len ∧ zloop (g_Huts_read_38 2 1 (nI len)) f (nI (LN T p), nI (WT T p), nI (TM T p), nI p, hr h n S G) = some (nI q, hr h n S' G')) ∧ (flt T n d p = none → ∃ S' G', JR T len (LN T len + 1) S' G' ∧ zloop (g_Huts_read_38 2 1 (nI len)) f (nI (LN T p), nI (WT T p), nI (TM T p), nI p, hr h n S G) = some (-1, rdF h n S' G' Ls (LN T len + 1))) := by
  intro d
  induction d with
  | zero =>
    intro p f S G hd hp hf hv hJ
    obtain ⟨f, rfl⟩ : ∃ k, f = k + 1 := ⟨f - 1, by omega⟩
    obtain rfl : p = len := by omega
    have bd := WT_bound (T := T) (own := n) p hv
    obtain ⟨a, b⟩ := s_rd_end H n6 h17 hl hJ (by omega) (zloop (g_Huts_read_38 2 1 (nI p)) f)
    refine ⟨fun q hq => ?_, fun hq => ?_⟩
    · unfold flt at hq
      split at hq
      · cases hq
      · rename_i z
        have := Option.some.inj hq
        subst this
        exact ⟨S, G, rfl, Nat.le_refl _, a z⟩
    · unfold flt at hq
      split at hq
      · rename_i z
        obtain ⟨S', c, e⟩ := b z
        exact ⟨S', G, c, e⟩
      · cases hq
  | succ d ih =>
    intro p f S G hd hp hf hv hJ
    obtain ⟨f, rfl⟩ : ∃ k, f = k + 1 := ⟨f - 1, by omega⟩
    obtain ⟨a, b⟩ := s_rd_step (len := len) H n6 h1 hT (by omega) hl hv hJ (zloop (g_Huts_read_38 2 1 (nI len)) f)
    by_cases o : okc T n p
    · obtain ⟨S1, G1, s0, hJ1, e⟩ := b o
      obtain ⟨x, y⟩ := ih (p + 1) f S1 G1 (by omega) (by omega) (by omega) (fun j hj => by
        by_cases z : j = p
        · rw [z]; exact o
        · exact hv j (by omega)) hJ1
      have ef : flt T n (d + 1) p = flt T n d (p + 1) := if_pos o
      rw [ef]
      refine ⟨fun q hq => ?_, fun hq => ?_⟩
      · obtain ⟨S', G', z, w, t⟩ := x q hq
        exact ⟨S', G', z.trans s0, w, e.trans t⟩
      · obtain ⟨S', G', z, t⟩ := y hq
        exact ⟨S', G', z, e.trans t⟩
    · have ef : flt T n (d + 1) p = some p := if_neg o
      rw [ef]
      refine ⟨fun q hq => ?_, fun hq => by cases hq⟩
      have := Option.some.inj hq
      subst this
      exact ⟨S, G, rfl, by omega, a o⟩
theorem s_read (H : HB n h) (n6 : n < 6) (h1 : h 1 = zI32 60 Tt) (hT : ∀ k, k < 60 → Tt k = nI (T k) ∧ T k < 256) (h17 : h 17 = zI32 6 Ls) (hl : len ≤ 60) (hS : h (11 + n) = zI32 62 S) (hG : h (4 + n) = zI32 270 G) (hS0 : S 0 = nI 0) :
    (∀ q, flt T n len 0 = some q → ∃ S' G', S' 0 = nI 0 ∧ q ≤ len ∧ m_Huts_read 2 1 (nI len) h = some (nI q, hr h n S' G')) ∧ (flt T n len 0 = none → ∃ S' G', JR T len (LN T len + 1) S' G' ∧ m_Huts_read 2 1 (nI len) h = some (-1, rdF h n S' G' Ls (LN T len + 1))) := by
  have z := zN_big
  have eh : hr h n S G = h := by
    unfold hr
    rw [zup_self hS, zup_self hG]
  obtain ⟨-, e1, -⟩ := HB_rd H
  have el : zlen h 1 = some (nI 60) := by
    unfold zlen
    rw [h1]
    rfl
  have c1 : (6 ≤ n) = False := eq_false (by omega)
  have c2 : (60 < len) = False := eq_false (by omega)
  have c3 : (len ≤ 60) = True := eq_true hl
  have st : m_Huts_read 2 1 (nI len) h = zloop (g_Huts_read_38 2 1 (nI len)) zN (nI 0, nI 0, nI 0, nI 0, h) := by
    simp (disch := omega) only [m_Huts_read, e1, bind_some', nI_le_iff, c1, if_false, nI_lt0, nI_lt_iff, c2, el, c3, if_true]
  have lp := s_rd_l (len := len) H n6 h1 hT h17 hl len 0 zN S G (by omega) (by omega) (by omega) (fun j hj => by omega) ⟨fun l hl => by
    have : l = 0 := Nat.le_zero.mp hl
    subst this
    exact hS0, fun l _ i x hx => by cases hx⟩
  rw [eh] at lp
  obtain ⟨a, b⟩ := lp
  refine ⟨fun q hq => ?_, fun hq => ?_⟩
  · obtain ⟨S', G', x, y, e⟩ := a q hq
    exact ⟨S', G', x.trans hS0, y, st.trans e⟩
  · obtain ⟨S', G', x, e⟩ := b hq
    exact ⟨S', G', x, st.trans e⟩
end RDS
