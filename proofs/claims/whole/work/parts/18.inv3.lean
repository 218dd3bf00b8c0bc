/-! WHAT EACH PART OF A STEP KEEPS -/
section IOP
variable {fm n c s : Nat} {g : Nat → Int32} {kd : Nat} {nw : Nat → Int32 → Nat} {go : Nat → Int32 → Nat → Nat}
theorem ivL.slack {s' : Nat} (h : ivL c s g) (q : s' ≤ s) : ivL c s' g := by
  obtain ⟨U, V, N, T, h1, h2, h3, h4, h5, h6⟩ := h
  exact ⟨U, V, N, T, h1, h2, h3, h4, by omega, h6⟩
theorem IV.slack {s' : Nat} (h : IV fm n c s g) (q : s' ≤ s) : IV fm n c s' g := by
  obtain ⟨h1, h2, h3, h4, h5, h6, h7, h8⟩ := h
  exact ⟨h1, h2, h3, h4, h5, h6, fun z => (h7 z).slack q, h8⟩
theorem IV.not1 {s' : Nat} (hf : fm ≠ 1) (h : IV fm n c s g) : IV fm n c s' g := by
  obtain ⟨h1, h2, h3, h4, h5, h6, h7, h8⟩ := h
  exact ⟨h1, h2, h3, h4, h5, h6, fun z => absurd z hf, h8⟩
theorem IV.tkW {i w : Nat} (hn : n ≤ 6) (hw : g 18 = nI w) (w8 : w ≤ 8) (hi : i < w) (h : IV fm n c 0 g) : ∃ v, (fm = 1 → g (35 + i) = nI v) ∧ IV fm n c v (takeW g i) := by
  obtain ⟨h1, h2, h3, h4, h5, h6, h7, h8⟩ := h
  have base : ∀ v, (fm = 1 → ivL c v (takeW g i)) → IV fm n c v (takeW g i) := by
    intro v hv
    exact ⟨h1.take hw w8 hi, h2.cg fun j a b => tW_hi i (by omega), h3.cg fun j a => tW_lo i (by omega), h4.takeW (by omega), fun z => (h5 z).cg (fun j a b => tW_hi i (by omega)) hn, fun z => (h6 z).cg fun j a => tW_hi i (by omega), hv, h8.cg fun j a => tW_hi i (by omega)⟩
  by_cases f : fm = 1
  · obtain ⟨U, V, N, T, a1, a2, a3, a4, a5, a6⟩ := h7 f
    refine ⟨V i, fun _ => a2 i (by omega), base _ fun _ => ⟨U, sh8 V i, N, T, fun hh q => by rw [tW_hi i (by omega)]; exact a1 hh q, fun j q => ?_, fun j q => by rw [tW_hi i (by omega)]; exact a3 j q, by rw [tW_hi i (by omega)]; exact a4, ?_, a6⟩⟩
    · rw [tW_35 (by omega) q]
      unfold sh8
      split
      · exact a2 j q
      · split
        · exact a2 (j + 1) (by omega)
        · rfl
    · have := s8_sh (V := V) (i := i) (by omega)
      omega
  · exact ⟨0, fun z => absurd z f, base 0 fun z => absurd z f⟩
theorem IV.tkN {i w : Nat} (hn : n ≤ 6) (hw : g 43 = nI w) (w8 : w ≤ 8) (hi : i < w) (h : IV fm n c 0 g) : ∃ v, (fm = 1 → g (52 + i) = nI v) ∧ IV fm n c v (takeN g i) := by
  obtain ⟨h1, h2, h3, h4, h5, h6, h7, h8⟩ := h
  have base : ∀ v, (fm = 1 → ivL c v (takeN g i)) → IV fm n c v (takeN g i) := by
    intro v hv
    exact ⟨h1.cg fun j a b => tN_lo i (by omega), h2.take hw w8 hi, h3.cg fun j a => tN_lo i (by omega), h4.cg fun j a b => (by rcases a with a | a; exact tN_lo i (by omega); exact tN_hi i (by omega)), fun z => (h5 z).cg (fun j a b => tN_hi i (by omega)) hn, fun z => (h6 z).takeN (by omega), hv, h8.cg fun j a => tN_hi i (by omega)⟩
  by_cases f : fm = 1
  · obtain ⟨U, V, N, T, a1, a2, a3, a4, a5, a6⟩ := h7 f
    refine ⟨N i, fun _ => a3 i (by omega), base _ fun _ => ⟨U, V, sh8 N i, T, fun hh q => by rw [tN_hi i (by omega)]; exact a1 hh q, fun j q => by rw [tN_lo i (by omega)]; exact a2 j q, fun j q => ?_, by rw [tN_hi i (by omega)]; exact a4, ?_, a6⟩⟩
    · rw [tN_52 (by omega) q]
      unfold sh8
      split
      · exact a3 j q
      · split
        · exact a3 (j + 1) (by omega)
        · rfl
    · have := s8_sh (V := N) (i := i) (by omega)
      omega
  · exact ⟨0, fun z => absurd z f, base 0 fun z => absurd z f⟩
/-- units come to a hut -/
theorem IV.addU {hh v : Nat} (hn : n ≤ 6) (hf : fm = 1) (hh6 : hh < 6) (h : IV fm n c v g) : IV fm n c 0 (upd g (68 + hh) (g (68 + hh) + nI v)) := by
  obtain ⟨h1, h2, h3, h4, h5, h6, h7, h8⟩ := h
  refine ⟨h1.cg fun j a b => upd_ne (by omega), h2.cg fun j a b => upd_ne (by omega), h3.cg fun j a => upd_ne (by omega), h4.cg fun j a b => upd_ne (by unfold rel at b; omega), fun z => by omega, fun z => by omega, fun z => ?_, h8.cg fun j a => upd_ne (by omega)⟩
  obtain ⟨U, V, N, T, a1, a2, a3, a4, a5, a6⟩ := h7 z
  refine ⟨fu U hh (U hh + v), V, N, T, fun k q => ?_, fun j q => by rw [upd_ne (by omega)]; exact a2 j q, fun j q => by rw [upd_ne (by omega)]; exact a3 j q, by rw [upd_ne (by omega)]; exact a4, ?_, a6⟩
  · unfold fu
    by_cases e : k = hh
    · rw [if_pos e, e, upd_eq, a1 hh hh6, nI_add]
    · rw [if_neg e, upd_ne (by omega)]; exact a1 k q
  · have := s6_fu (U := U) (k := hh) (v := U hh + v) hh6
    omega
theorem IV.wk {to : Nat} (hn : n ≤ 6) (hto : to < n) (h : IV fm n c s g) : IV fm n c s (wake g to) := by
  unfold wake
  split
  · exact IV.updL hn (by omega) (Nat.zero_le _) (IV.updF hn (by omega) (IV.updA hn (by omega) (Or.inr ⟨rfl, hto⟩) h))
  · exact h
theorem wake_hi {to j : Nat} (hto : to < 6) (hj : 18 ≤ j) : wake g to j = g j := by
  unfold wake
  split
  · rw [upd_ne (by omega), upd_ne (by omega), upd_ne (by omega)]
  · rfl
theorem IV.join {fr : Int32} {to : Nat} (hn : n ≤ 6) (hf : fm = 2) (hto : to < n) (hfr : ∃ t, t < n ∧ fr = nI t) (h : IV fm n c s g) (h1 : (aJoin g fr to).1 = nI 1) : IV fm n c s (aJoin g fr to).2 := by
  unfold aJoin at h1 ⊢
  split
  · rename_i e
    rw [if_pos e] at h1
    exact h.note hn (by omega) hfr (fun z => by omega) h1
  · exact IV.updI hn hf hto (Or.inr ⟨rfl, hfr⟩) h
theorem IV.come {i w : Nat} (hn : n ≤ 6) (hfm : fm < 6) (hw : g 18 = nI w) (w8 : w ≤ 8) (hi : i < w) (h : IV fm n c 0 g) (h1 : (aCome fm kd g i).1 = nI 1) : IV fm n c 0 (aCome fm kd g i).2 := by
  obtain ⟨⟨w', w8', hw', hwd, -⟩, -⟩ := id h
  have ew : w' = w := (nI_eq (by omega) (by omega)).mp (hw'.symm.trans hw)
  subst ew
  obtain ⟨f, t, hf, ht, ef, et⟩ := hwd i hi
  have ec : cnt g (27 + i) = t := cnt_nI et (by omega)
  obtain ⟨v, hv, h2⟩ := h.tkW hn hw w8 hi
  unfold aCome at h1 ⊢
  rw [ec, ef] at h1 ⊢
  have h3 := h2.wk hn ht
  unfold aCome2 at h1 ⊢
  by_cases f1 : fm = 1
  · rw [if_pos f1]
    show IV fm n c 0 (upd _ _ _)
    rw [hv f1]
    exact h3.addU hn f1 (by omega)
  · rw [if_neg f1] at h1 ⊢
    have h3 := h3.not1 (s' := 0) f1
    by_cases f2 : fm = 2
    · rw [if_pos f2] at h1 ⊢
      exact h3.join hn f2 ht ⟨f, hf, rfl⟩ h1
    · rw [if_neg f2] at h1 ⊢
      by_cases f4 : fm = 4
      · rw [if_pos f4]
        exact IV.updB hn f4 (by omega) (by split <;> decide) (IV.updF hn (by omega) h3)
      · rw [if_neg f4]
        by_cases f5 : fm = 5
        · rw [if_pos f5]
          exact IV.updF hn (by omega) h3
        · rw [if_neg f5]
          exact h3
theorem IV.stone {hh : Nat} {sum bl : Int32} (hn : n ≤ 6) (hf : fm = 4) (hh6 : hh < n) (h : IV fm n c 0 g) (h1 : (aStone g hh sum bl).1 = nI 1) : IV fm n c 0 (aStone g hh sum bl).2 := by
  unfold aStone at h1 ⊢
  split
  · show IV fm n c 0 (if _ then _ else _)
    split
    · exact h.updO hn
    · exact h
  · rename_i e
    rw [if_neg e] at h1
    exact (h.updB hn hf (by omega) (Or.inl nI_0)).note hn (by omega) ⟨hh - 1, by omega, rfl⟩ (fun _ => by split <;> decide) h1
theorem IV.sums {hh : Nat} {x y : Int32} (hn : n ≤ 6) (hf : fm = 5) (hn0 : 0 < n) (h : IV fm n c 0 g) (h1 : (aSums kd n g hh x y).1 = nI 1) : IV fm n c 0 (aSums kd n g hh x y).2 := by
  unfold aSums at h1 ⊢
  split
  · show IV fm n c 0 (if _ then _ else _)
    split
    · exact h.updO hn
    · exact IV.updF hn (by omega) (IV.updF hn (by omega) (IV.updF hn (by omega) h))
  · rename_i e
    rw [if_neg e] at h1
    exact h.note hn (by omega) ⟨_, by split <;> omega, rfl⟩ (fun _ => by omega) h1
theorem IV.cn {i k : Nat} (hn : n ≤ 6) (hn0 : 0 < n) (hfm : fm < 6) (hk : g 43 = nI k) (k8 : k ≤ 8) (hi : i < k) (h : IV fm n c 0 g) (h1 : (aCN fm kd n g i).1 = nI 1) : IV fm n c 0 (aCN fm kd n g i).2 := by
  obtain ⟨-, ⟨k', k8', hk', hkd, -⟩, -⟩ := id h
  have ew : k' = k := (nI_eq (by omega) (by omega)).mp (hk'.symm.trans hk)
  subst ew
  obtain ⟨t, ht, et⟩ := hkd i hi
  have ec : cnt g (44 + i) = t := cnt_nI et (by omega)
  obtain ⟨v, hv, h3⟩ := h.tkN hn hk k8 hi
  unfold aCN at h1 ⊢
  rw [ec] at h1 ⊢
  split
  · rename_i e
    rw [if_pos e] at h1
    exact absurd h1 n5ne
  · rename_i e
    rw [if_neg e] at h1
    unfold aCN2 at h1 ⊢
    by_cases f1 : fm = 1
    · rw [if_pos f1]
      show IV fm n c 0 (upd _ _ _)
      rw [hv f1]
      exact h3.addU hn f1 (by omega)
    · rw [if_neg f1] at h1 ⊢
      have h3 := h3.not1 (s' := 0) f1
      by_cases f2 : fm = 2
      · rw [if_pos f2]
        exact IV.updF hn (by omega) h3
      · rw [if_neg f2] at h1 ⊢
        by_cases f4 : fm = 4
        · rw [if_pos f4] at h1 ⊢
          exact h3.stone hn f4 ht h1
        · rw [if_neg f4] at h1 ⊢
          by_cases f5 : fm = 5
          · rw [if_pos f5] at h1 ⊢
            exact h3.sums hn f5 hn0 h1
          · rw [if_neg f5]
            exact h3
theorem IV.ask (hn : n ≤ 6) (hn0 : 0 < n) (h : IV fm n c 0 g) (h1 : (aAsk fm n g).1 = nI 1) : IV fm n c 0 (aAsk fm n g).2 := by
  unfold aAsk at h1 ⊢
  split
  · rename_i e
    rw [if_pos e] at h1
    by_cases f4 : fm = 4
    · rw [if_pos f4] at h1 ⊢
      exact (h.updB (hh := 0) hn f4 (by omega) (Or.inl nI_0)).note hn (by omega) ⟨n - 1, by omega, rfl⟩ (fun _ => Or.inl nI_0) h1
    · rw [if_neg f4] at h1 ⊢
      by_cases f5 : fm = 5
      · rw [if_pos f5] at h1 ⊢
        exact h.note hn (by omega) ⟨_, by split <;> omega, rfl⟩ (fun _ => by omega) h1
      · rw [if_neg f5]
        exact h
  · rename_i e
    rw [if_neg e] at h1
    exact absurd h1 n5ne
theorem IV.lvs {hh : Nat} (hn : n ≤ 6) (hf : fm = 2) (h0 : 0 < hh) (hh6 : hh < n) (h : IV fm n c 0 g) (h1 : (lvS kd g hh).1 = nI 1) : IV fm n c 0 (lvS kd g hh).2 := by
  unfold lvS at h1 ⊢
  split
  · rename_i e
    rw [if_pos e] at h1
    obtain ⟨-, -, -, -, hS, -⟩ := id h
    exact IV.updI hn hf hh6 (Or.inl nI_0) (h.note hn (by omega) ((hS hf).2.1 hh h0 hh6 e.2.1) (fun _ => by omega) h1)
  · exact h
theorem IV.lvl (hn : n ≤ 6) (hf : fm = 2) : ∀ (d hh : Nat) (g : Nat → Int32), 0 < hh → hh + d ≤ n → IV fm n c 0 g → (lvL kd d hh g).1 = nI 1 → IV fm n c 0 (lvL kd d hh g).2 := by
  intro d
  induction d with
  | zero => intro hh g _ _ h _; exact h
  | succ d ih =>
    intro hh g h0 hd h h1
    unfold lvL at h1 ⊢
    split
    · rename_i e
      rw [if_pos e] at h1
      exact ih (hh + 1) _ (by omega) (by omega) (h.lvs hn hf h0 (by omega) e) h1
    · rename_i e
      rw [if_neg e] at h1
      exact absurd h1 e
theorem IV.see {q : cA} (hn : n ≤ 6) (h : IV fm n c 0 q.2) : IV fm n c 0 (aSee fm q).2 := by
  unfold aSee
  split
  · exact h.updO hn
  · exact h
theorem IV.fin {q : cA} (hn : n ≤ 6) (h : q.1 = nI 1 → IV fm n c 0 q.2) (h1 : (aFin fm kd n q).1 = nI 1) : IV fm n c 0 (aFin fm kd n q).2 := by
  unfold aFin at h1 ⊢
  split
  · rename_i e
    rw [if_pos e] at h1
    have hs : ∀ z : cA, (aSee fm z).1 = z.1 := by
      intro z
      unfold aSee
      split <;> rfl
    rw [hs] at h1
    refine IV.see hn ?_
    split
    · rename_i f
      rw [if_pos f] at h1
      unfold aLeave at h1 ⊢
      by_cases n0 : n = 0
      · subst n0
        exact h e
      · exact IV.lvl hn f _ _ _ (by omega) (by omega) (h e) h1
    · exact h e
  · rename_i e
    rw [if_neg e] at h1
    exact absurd h1 e
end IOP
