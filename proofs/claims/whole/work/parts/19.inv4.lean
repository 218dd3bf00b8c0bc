/-! SENDING AND GOING ON KEEP IT; A WHOLE STEP -/
section IQ
variable {fm n c s : Nat} {g : Nat → Int32} {kd : Nat} {nw : Nat → Int32 → Nat} {go : Nat → Int32 → Nat → Nat}
theorem sG0_ne {hh j : Nat} (h1 : j ≠ 12 + hh) (h2 : j ≠ 121) : sG0 g hh j = g j := by unfold sG0; rw [upd_ne h2, upd_ne h1]
theorem IV.sg0 {hh m : Nat} (hn : n ≤ 6) (hh6 : hh < n) (hm : g (12 + hh) = nI m) (h270 : m < 270) (h : IV fm n c s g) : IV fm n c s (sG0 g hh) := by
  unfold sG0
  rw [hm, nI_add]
  exact IV.updF hn (by omega) (IV.updL hn (by omega) (by omega) h)
/-- the lantern is parted: so many units go -/
theorem IV.part {hh : Nat} (hn : n ≤ 6) (hf : fm = 1) (hh6 : hh < 6) (hc : c ≤ 1000000) (h : IV fm n c 0 g) : ∃ v, puH g hh = nI v ∧ IV fm n (c + 1) v (puR g hh) := by
  obtain ⟨h1, h2, h3, h4, h5, h6, h7, h8⟩ := h
  obtain ⟨U, V, N, T, a1, a2, a3, a4, a5, a6⟩ := h7 hf
  have hU := s6_le (U := U) hh6
  have e0 := a1 hh hh6
  -- the lantern, filled up where it must be
  obtain ⟨u, T', q1, q2, q3, q4, q5⟩ : ∃ u T', puG g hh (68 + hh) = nI u ∧ puG g hh 74 = nI T' ∧ (∀ j, j ≠ 68 + hh → j ≠ 74 → puG g hh j = g j) ∧ u + T ≤ U hh + T' ∧ U hh ≤ u ∧ T' ≤ T + 64 ∧ u < 2 ^ 31 := by
    unfold puG
    by_cases c1 : nI 1 < g (68 + hh)
    · rw [if_pos c1]
      exact ⟨U hh, T, e0, a4, fun _ _ _ => rfl, by omega, by omega, by omega, by omega⟩
    · rw [if_neg c1]
      refine ⟨U hh + 64, T + 64, ?_, ?_, fun j x y => by rw [upd_ne y, upd_ne x], by omega, by omega, by omega, by omega⟩
      · rw [upd_ne (by omega), upd_eq, e0, nI_add]
      · rw [upd_eq, a4, nI_add]
  have eh : puH g hh = nI (u / 2) := by
    unfold puH
    rw [q1]
    exact pk_div (by omega) (by omega) (by omega)
  have er : puR g hh = upd (puG g hh) (68 + hh) (nI (u - u / 2)) := by
    unfold puR
    rw [eh, q1, nI_subn (by omega)]
  have eo : ∀ j, j ≠ 68 + hh → j ≠ 74 → puR g hh j = g j := fun j x y => by rw [er, upd_ne x]; exact q3 j x y
  refine ⟨u / 2, eh, h1.cg fun j a b => eo j (by omega) (by omega), h2.cg fun j a b => eo j (by omega) (by omega), h3.cg fun j a => eo j (by omega) (by omega), h4.cg fun j a b => eo j (by unfold rel at b; omega) (by unfold rel at b; omega), fun z => by omega, fun z => by omega, fun z => ?_, h8.cg fun j a => eo j (by omega) (by omega)⟩
  refine ⟨fu U hh (u - u / 2), V, N, T', fun k q => ?_, fun j q => by rw [eo _ (by omega) (by omega)]; exact a2 j q, fun j q => by rw [eo _ (by omega) (by omega)]; exact a3 j q, by rw [er, upd_ne (by omega)]; exact q2, ?_, by omega⟩
  · unfold fu
    by_cases e : k = hh
    · rw [if_pos e, e, er, upd_eq]
    · rw [if_neg e, eo _ (by omega) (by omega)]; exact a1 k q
  · have := s6_fu (U := U) (k := hh) (v := u - u / 2) hh6
    omega
theorem pW_18 {k : Nat} {fr to u : Int32} : pushW g k fr to u 18 = nI (k + 1) := by unfold pushW; rw [upd_eq]
theorem pW_19 {k j : Nat} {fr to u : Int32} (hj : j < 8) (hk : k < 8) : pushW g k fr to u (19 + j) = if j = k then fr else g (19 + j) := by
  unfold pushW
  rw [upd_ne (by omega), upd_ne (by omega), upd_ne (by omega)]
  by_cases e : j = k
  · rw [if_pos e, e, upd_eq]
  · rw [if_neg e, upd_ne (by omega)]
theorem pW_27 {k j : Nat} {fr to u : Int32} (hj : j < 8) (hk : k < 8) : pushW g k fr to u (27 + j) = if j = k then to else g (27 + j) := by
  unfold pushW
  rw [upd_ne (by omega), upd_ne (by omega)]
  by_cases e : j = k
  · rw [if_pos e, e, upd_eq]
  · rw [if_neg e, upd_ne (by omega), upd_ne (by omega)]
theorem pW_35 {k j : Nat} {fr to u : Int32} (hj : j < 8) (hk : k < 8) : pushW g k fr to u (35 + j) = if j = k then u else g (35 + j) := by
  unfold pushW
  rw [upd_ne (by omega)]
  by_cases e : j = k
  · rw [if_pos e, e, upd_eq]
  · rw [if_neg e, upd_ne (by omega), upd_ne (by omega), upd_ne (by omega)]
theorem pW_out {k j : Nat} {fr to u : Int32} (hk : k < 8) (hj : j < 18 ∨ 43 ≤ j) : pushW g k fr to u j = g j := by
  unfold pushW
  rw [upd_ne (by omega), upd_ne (by omega), upd_ne (by omega), upd_ne (by omega)]
theorem IV.psW {k fr to v : Nat} (hn : n ≤ 6) (hk : g 18 = nI k) (k8 : k < 8) (hfr : fr < n) (hto : to < n) (hv : fm ≠ 1 → v = 0) (hv31 : v < 2 ^ 31) (h : IV fm n c v g) (hc : c ≤ 1000001) : IV fm n c 0 (pushW g k (nI fr) (nI to) (nI v)) := by
  obtain ⟨h1, h2, h3, h4, h5, h6, h7, h8⟩ := h
  obtain ⟨w', w8', hw', b1, b2⟩ := id h1
  have ew : w' = k := (nI_eq (by omega) (by omega)).mp (hw'.symm.trans hk)
  subst ew
  refine ⟨?_, h2.cg fun j a b => pW_out k8 (by omega), h3.cg fun j a => pW_out k8 (by omega), ?_, fun z => (h5 z).cg (fun j a b => pW_out k8 (by omega)) hn, fun z => (h6 z).cg fun j a => pW_out k8 (by omega), fun z => ?_, h8.cg fun j a => pW_out k8 (by omega)⟩
  · refine ⟨w' + 1, by omega, pW_18, fun j hj => ?_, fun j a b => ?_⟩
    · rw [pW_19 (by omega) k8, pW_27 (by omega) k8]
      by_cases e : j = w'
      · rw [if_pos e, if_pos e]; exact ⟨fr, to, hfr, hto, rfl, rfl⟩
      · rw [if_neg e, if_neg e]; exact b1 j (by omega)
    · have e : ¬ j = w' := by omega
      rw [pW_19 (by omega) k8, pW_27 (by omega) k8, pW_35 (by omega) k8, if_neg e, if_neg e, if_neg e]
      exact b2 j (by omega) b
  · intro j a b
    by_cases q : j < 43
    · obtain ⟨i, rfl⟩ : ∃ i, j = 35 + i := ⟨j - 35, by omega⟩
      rw [pW_35 (by omega) k8]
      split
      · rw [hv (by unfold rel at b; omega), nI_0]
      · exact h4 _ a b
    · rw [pW_out k8 (by omega)]; exact h4 j a b
  · obtain ⟨U, V, N, T, a1, a2, a3, a4, a5, a6⟩ := h7 z
    have z0 : V w' = 0 := by
      have e1 := (b2 w' (by omega) (by omega)).2.2
      rw [a2 w' (by omega), ← nI_0] at e1
      have := s8_le (U := V) (k := w') (by omega)
      exact (nI_eq (by omega) (by omega)).mp e1
    refine ⟨U, fu V w' v, N, T, fun hh q => by rw [pW_out k8 (by omega)]; exact a1 hh q, fun j q => ?_, fun j q => by rw [pW_out k8 (by omega)]; exact a3 j q, by rw [pW_out k8 (by omega)]; exact a4, ?_, a6⟩
    · rw [pW_35 q k8]
      unfold fu
      split
      · rfl
      · exact a2 j q
    · have := s8_fu (U := V) (k := w') (v := v) (by omega)
      omega
theorem IV.send {hh gl m : Nat} (hn : n ≤ 6) (hfm : fm < 6) (hh6 : hh < n) (hm : g (12 + hh) = nI m) (h270 : m < 270) (hc : c ≤ 1000000) (h : IV fm n c 0 g) (h1 : (aSend fm n g hh gl).1 = nI 1) : IV fm n (c + 1) 0 (aSend fm n g hh gl).2 := by
  obtain ⟨⟨w, w8, hw, -, -⟩, -⟩ := id h
  have key : ∃ v, sU fm g hh = nI v ∧ (fm ≠ 1 → v = 0) ∧ v < 2 ^ 31 ∧ IV fm n (c + 1) v (sG fm g hh) := by
    have h0 := h.sg0 hn hh6 hm h270
    by_cases f1 : fm = 1
    · obtain ⟨v, e1, e2⟩ := h0.part (hh := hh) hn f1 (by omega) hc
      refine ⟨v, ?_, fun z => absurd f1 z, ?_, ?_⟩
      · unfold sU
        rw [if_pos f1]; exact e1
      · obtain ⟨-, -, -, -, -, -, h7, -⟩ := e2
        obtain ⟨U, V, N, T, a1, a2, a3, a4, a5, a6⟩ := h7 f1
        omega
      · unfold sG
        rw [if_pos f1]; exact e2
    · have h0 := h0.mono (c' := c + 1) (by omega)
      refine ⟨0, ?_, fun _ => rfl, by omega, ?_⟩
      · unfold sU
        rw [if_neg f1]
      · unfold sG
        rw [if_neg f1]
        split
        · exact h0.updF hn (by omega)
        · split
          · exact h0.updF hn (by omega)
          · split
            · exact h0.updF hn (by omega)
            · exact h0
  obtain ⟨v, e1, e2, e3, e4⟩ := key
  unfold aSend at h1 ⊢
  rw [cnt_nI hw (by omega), e1] at h1 ⊢
  by_cases q1 : gl < n
  · rw [if_pos q1] at h1 ⊢
    by_cases q2 : w < 8
    · rw [if_pos q2]
      exact IV.psW hn (by rw [sG_18 _ (by omega)]; exact hw) q2 hh6 q1 e2 e3 e4 (by omega)
    · rw [if_neg q2] at h1
      exact absurd h1 n3ne
  · rw [if_neg q1]
    exact e4.slack (Nat.zero_le _)
theorem IV.sleepL {hh : Nat} (hn : n ≤ 6) (hf : fm = 1) (hh6 : hh < 6) (hn0 : 0 < n) (h : IV fm n c 0 g) (hc : c ≤ 1000000) (h1 : (aNote (upd g (68 + hh) (nI 0)) (nI 0) (g (68 + hh)) (nI 0)).1 = nI 1) : IV fm n c 0 (aNote (upd g (68 + hh) (nI 0)) (nI 0) (g (68 + hh)) (nI 0)).2 := by
  obtain ⟨a1, a2, a3, a4, a5, a6, a7, a8⟩ := h
  obtain ⟨k, k8, hk, -, b2⟩ := id a2
  obtain ⟨q, e⟩ := aNote_ok h1 (k := k) (by rw [upd_ne (by omega)]; exact hk) k8
  rw [e]
  have eo : ∀ j, (j < 43 ∨ 68 ≤ j) → j ≠ 122 → j ≠ 68 + hh → pushN (upd g (68 + hh) (nI 0)) k (nI 0) (g (68 + hh)) (nI 0) j = g j := fun j x y z => by rw [pN_out q x y, upd_ne z]
  refine ⟨a1.cg fun j a b => eo j (by omega) (by omega) (by omega), (a2.cg (g' := upd g (68 + hh) (nI 0)) fun j a b => upd_ne (by omega)).push (by rw [upd_ne (by omega)]; exact hk) q ⟨0, hn0, rfl⟩, a3.cg fun j a => eo j (by omega) (by omega) (by omega), a4.cg fun j a b => eo j (by omega) (by omega) (by unfold rel at b; omega), fun z => by omega, fun z => by omega, fun z => ?_, a8.cg fun j a => eo j (by omega) (by omega) (by omega)⟩
  obtain ⟨U, V, N, T, c1, c2, c3, c4, c5, c6⟩ := a7 z
  have z0 : N k = 0 := by
    have e1 := (b2 k (by omega) (by omega)).2.1
    rw [c3 k (by omega), ← nI_0] at e1
    have := s8_le (U := N) (k := k) (by omega)
    exact (nI_eq (by omega) (by omega)).mp e1
  refine ⟨fu U hh 0, V, fu N k (U hh), T, fun j x => ?_, fun j x => by rw [eo _ (by omega) (by omega) (by omega)]; exact c2 j x, fun j x => ?_, by rw [eo _ (by omega) (by omega) (by omega)]; exact c4, ?_, c6⟩
  · unfold fu
    by_cases e : j = hh
    · rw [if_pos e, e, pN_out q (by omega) (by omega), upd_eq]
    · rw [if_neg e, eo _ (by omega) (by omega) (by omega)]; exact c1 j x
  · rw [pN_52 x q]
    unfold fu
    split
    · exact c1 hh hh6
    · rw [upd_ne (by omega)]; exact c3 j x
  · have := s6_fu (U := U) (k := hh) (v := 0) hh6
    have := s8_fu (U := N) (k := k) (v := U hh) (by omega)
    omega
theorem IV.goOn {hh : Nat} (hn : n ≤ 6) (hfm : fm < 6) (hh6 : hh < n) (hc : c ≤ 1000000) (hnw : ∀ l, nw hh l ≤ 270) (h : IV fm n c 0 g) (h1 : (aGoOn fm n nw go g hh).1 = nI 1) : IV fm n (c + 1) 0 (aGoOn fm n nw go g hh).2 := by
  obtain ⟨-, -, ⟨-, -, hL⟩, -⟩ := id h
  obtain ⟨m, hm, em⟩ := hL hh (by omega)
  unfold aGoOn at h1 ⊢
  split
  · rename_i e
    rw [if_pos e] at h1
    exact absurd h1 n5ne
  · rename_i e
    rw [if_neg e] at h1
    split
    · rename_i e2
      rw [if_pos e2] at h1
      have hA : IV fm n (c + 1) 0 (upd g hh (nI 0)) := (h.updA hn (by omega) (Or.inl nI_0)).mono (by omega)
      split
      · rename_i f1
        rw [if_pos f1] at h1
        split
        · exact hA
        · rename_i e3
          rw [if_neg e3] at h1
          split
          · exact hA
          · rename_i e4
            rw [if_neg e4] at h1
            have e5 : g (68 + hh) = upd g hh (nI 0) (68 + hh) := (upd_ne (by omega)).symm
            rw [e5] at h1 ⊢
            exact ((h.updA hn (by omega) (Or.inl nI_0)).sleepL (hh := hh) hn f1 (by omega) (by omega) hc h1).mono (by omega)
      · exact hA
    · rename_i e2
      rw [if_neg e2] at h1
      have hw := hnw (g (6 + hh) - nI 1)
      have hlt : m < nw hh (g (6 + hh) - nI 1) := by
        rw [em, nI_le_iff (by omega) (by omega)] at e2
        omega
      exact h.send hn hfm hh6 em (by omega) hc h1
theorem IV.step {sort : Nat} {i : Int32} (hn : n ≤ 6) (hn0 : 0 < n) (hfm : fm < 6) (hc : c ≤ 1000000) (hnw : ∀ hh, hh < n → ∀ l, nw hh l ≤ 270) (h : IV fm n c 0 g) (h1 : (aStep kd fm n nw go sort i g).1 = nI 1) : IV fm n (c + 1) 0 (aStep kd fm n nw go sort i g).2 := by
  obtain ⟨⟨w, w8, hw, -, -⟩, ⟨k, k8, hk, -, -⟩, -⟩ := id h
  unfold aStep at h1 ⊢
  refine IV.fin hn (fun e => ?_) h1
  have ew : cnt g 18 = w := cnt_nI hw (by omega)
  have ek : cnt g 43 = k := cnt_nI hk (by omega)
  rcases (show sort = 0 ∨ sort = 1 ∨ sort = 2 ∨ sort = 3 ∨ sort = 4 ∨ 5 ≤ sort by omega) with rfl | rfl | rfl | rfl | rfl | h5
  · rcases ix_cases i n (by omega) with ⟨q, -⟩ | ⟨hh, hh6, -, q⟩
    · rw [q] at e; exact absurd e n5ne
    · rw [q] at e ⊢; exact h.goOn hn hfm hh6 hc (hnw hh hh6) e
  · rw [ew] at e ⊢
    rcases ix_cases i w (by omega) with ⟨q, -⟩ | ⟨j, hj, -, q⟩
    · rw [q] at e; exact absurd e n5ne
    · rw [q] at e ⊢; exact (h.come hn hfm hw w8 hj e).mono (by omega)
  · rw [ek] at e ⊢
    rcases ix_cases i k (by omega) with ⟨q, -⟩ | ⟨j, hj, -, q⟩
    · rw [q] at e; exact absurd e n5ne
    · rw [q] at e ⊢; exact (h.cn hn hn0 hfm hk k8 hj e).mono (by omega)
  · have e : (if i = 0 then aAsk fm n g else (-5, g)).1 = nI 1 := e
    show IV fm n (c + 1) 0 (if i = 0 then aAsk fm n g else (-5, g)).2
    split
    · rename_i q
      rw [if_pos q] at e
      exact (h.ask hn hn0 e).mono (by omega)
    · rename_i q
      rw [if_neg q] at e
      exact absurd e n5ne
  · rw [ew] at e ⊢
    rcases ix_cases i w (by omega) with ⟨q, -⟩ | ⟨j, hj, -, q⟩
    · rw [q] at e; exact absurd e n5ne
    · rw [q]
      obtain ⟨v, -, h2⟩ := h.tkW hn hw w8 hj
      exact (h2.slack (Nat.zero_le _)).mono (by omega)
  · obtain ⟨z, rfl⟩ : ∃ z, sort = z + 5 := ⟨sort - 5, by omega⟩
    exact absurd e n5ne
end IQ
