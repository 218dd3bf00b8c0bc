/-! WHAT SINGLE CHANGES KEEP -/
theorem n3ne : ¬ (-3 : Int32) = nI 1 := by decide
theorem n5ne : ¬ (-5 : Int32) = nI 1 := by decide
section IU
variable {fm n c s : Nat} {g : Nat → Int32}
theorem IV.mono {c' : Nat} (h : IV fm n c s g) (hc : c ≤ c') : IV fm n c' s g := by
  obtain ⟨h1, h2, h3, h4, h5, h6, h7, h8⟩ := h
  exact ⟨h1, h2, h3, h4, h5, h6, fun q => (h7 q).cg hc (fun _ _ => rfl), h8⟩
theorem IV.updF {j : Nat} {v : Int32} (hn : n ≤ 6) (hj : (6 ≤ j ∧ j < 12) ∨ j = 121 ∨ j = 122 ∨ (fm = 4 ∧ 93 ≤ j ∧ j < 99) ∨ (fm = 5 ∧ 105 ≤ j ∧ j < 120) ∨ (fm = 2 ∧ 75 ≤ j ∧ j < 81)) (h : IV fm n c s g) : IV fm n c s (upd g j v) := by
  obtain ⟨h1, h2, h3, h4, h5, h6, h7, h8⟩ := h
  refine ⟨h1.cg fun k a b => upd_ne (by omega), h2.cg fun k a b => upd_ne (by omega), ?_, h4.cg fun k a b => upd_ne (by unfold rel at b; omega), fun q => (h5 q).cg (fun k a b => upd_ne (by omega)) hn, fun q => (h6 q).cg fun k a => upd_ne (by omega), fun q => (h7 q).cg (Nat.le_refl _) fun k a => upd_ne (by omega), h8.cg fun k a => upd_ne (by omega)⟩
  obtain ⟨a1, a2, a3⟩ := h3
  refine ⟨fun hh q => ?_, fun hh a b => ?_, fun hh q => ?_⟩
  · rw [upd_ne (by omega)]; exact a1 hh q
  · rw [upd_ne (by omega)]; exact a2 hh a b
  · rw [upd_ne (by omega)]; exact a3 hh q
theorem IV.updA {hh : Nat} {v : Int32} (hn : n ≤ 6) (hh6 : hh < 6) (hv : v = 0 ∨ (v = nI 1 ∧ hh < n)) (h : IV fm n c s g) : IV fm n c s (upd g hh v) := by
  obtain ⟨h1, h2, h3, h4, h5, h6, h7, h8⟩ := h
  refine ⟨h1.cg fun k a b => upd_ne (by omega), h2.cg fun k a b => upd_ne (by omega), ?_, h4.cg fun k a b => upd_ne (by omega), fun q => (h5 q).cg (fun k a b => upd_ne (by omega)) hn, fun q => (h6 q).cg fun k a => upd_ne (by omega), fun q => (h7 q).cg (Nat.le_refl _) fun k a => upd_ne (by omega), h8.cg fun k a => upd_ne (by omega)⟩
  obtain ⟨a1, a2, a3⟩ := h3
  refine ⟨fun k q => ?_, fun k a b => ?_, fun k q => ?_⟩
  · by_cases e : k = hh
    · rw [e, upd_eq]; exact hv.elim Or.inl (fun z => Or.inr z.1)
    · rw [upd_ne e]; exact a1 k q
  · by_cases e : k = hh
    · rw [e, upd_eq]; exact hv.elim id (fun z => by omega)
    · rw [upd_ne e]; exact a2 k a b
  · rw [upd_ne (by omega)]; exact a3 k q
theorem IV.updL {hh m : Nat} (hn : n ≤ 6) (hh6 : hh < 6) (hm : m ≤ 270) (h : IV fm n c s g) : IV fm n c s (upd g (12 + hh) (nI m)) := by
  obtain ⟨h1, h2, h3, h4, h5, h6, h7, h8⟩ := h
  refine ⟨h1.cg fun k a b => upd_ne (by omega), h2.cg fun k a b => upd_ne (by omega), ?_, h4.cg fun k a b => upd_ne (by omega), fun q => (h5 q).cg (fun k a b => upd_ne (by omega)) hn, fun q => (h6 q).cg fun k a => upd_ne (by omega), fun q => (h7 q).cg (Nat.le_refl _) fun k a => upd_ne (by omega), h8.cg fun k a => upd_ne (by omega)⟩
  obtain ⟨a1, a2, a3⟩ := h3
  refine ⟨fun k q => ?_, fun k a b => ?_, fun k q => ?_⟩
  · rw [upd_ne (by omega)]; exact a1 k q
  · rw [upd_ne (by omega)]; exact a2 k a b
  · by_cases e : k = hh
    · rw [e, upd_eq]; exact ⟨m, hm, rfl⟩
    · rw [upd_ne (by omega)]; exact a3 k q
theorem IV.updO (hn : n ≤ 6) (h : IV fm n c s g) : IV fm n c s (upd g 120 (nI 1)) := by
  obtain ⟨h1, h2, h3, h4, h5, h6, h7, h8⟩ := h
  refine ⟨h1.cg fun k a b => upd_ne (by omega), h2.cg fun k a b => upd_ne (by omega), h3.cg fun k a => upd_ne (by omega), h4.cg fun k a b => upd_ne (by omega), fun q => (h5 q).cg (fun k a b => upd_ne (by omega)) hn, fun q => (h6 q).cg fun k a => upd_ne (by omega), fun q => (h7 q).cg (Nat.le_refl _) fun k a => upd_ne (by omega), ?_⟩
  exact ⟨Or.inr (upd_eq _ _ _), fun j q => by rw [upd_ne (by omega)]; exact h8.2 j q⟩
theorem IV.updB {hh : Nat} {v : Int32} (hn : n ≤ 6) (hf : fm = 4) (hh6 : hh < 6) (hv : v = 0 ∨ v = nI 1) (h : IV fm n c s g) : IV fm n c s (upd g (99 + hh) v) := by
  obtain ⟨h1, h2, h3, h4, h5, h6, h7, h8⟩ := h
  refine ⟨h1.cg fun k a b => upd_ne (by omega), h2.cg fun k a b => upd_ne (by omega), h3.cg fun k a => upd_ne (by omega), h4.cg fun k a b => upd_ne (by unfold rel at b; omega), fun q => by omega, fun q => ?_, fun q => by omega, h8.cg fun k a => upd_ne (by omega)⟩
  obtain ⟨a1, a2⟩ := h6 q
  refine ⟨fun k q => ?_, fun k q => ?_⟩
  · by_cases e : k = hh
    · rw [e, upd_eq]; exact hv
    · rw [upd_ne (by omega)]; exact a1 k q
  · rw [upd_ne (by omega)]; exact a2 k q
/-- a hut comes into the tree, or leaves it -/
theorem IV.updI {hh : Nat} {v p : Int32} (hn : n ≤ 6) (hf : fm = 2) (hh6 : hh < n) (hv : v = 0 ∨ (v = nI 1 ∧ ∃ t, t < n ∧ p = nI t)) (h : IV fm n c s g) : IV fm n c s (upd (upd g (87 + hh) v) (81 + hh) p) := by
  obtain ⟨h1, h2, h3, h4, h5, h6, h7, h8⟩ := h
  refine ⟨h1.cg fun k a b => (upd_ne (by omega)).trans (upd_ne (by omega)), h2.cg fun k a b => (upd_ne (by omega)).trans (upd_ne (by omega)), h3.cg fun k a => (upd_ne (by omega)).trans (upd_ne (by omega)), h4.cg fun k a b => (upd_ne (by unfold rel at b; omega)).trans (upd_ne (by unfold rel at b; omega)), fun q => ?_, fun q => by omega, fun q => by omega, h8.cg fun k a => (upd_ne (by omega)).trans (upd_ne (by omega))⟩
  obtain ⟨a1, a2, a3⟩ := h5 q
  refine ⟨fun k q => ?_, fun k a b e => ?_, fun k a b => ?_⟩
  · by_cases e : k = hh
    · rw [e, upd_ne (by omega), upd_eq]; exact hv.elim Or.inl (fun z => Or.inr z.1)
    · rw [upd_ne (by omega), upd_ne (by omega)]; exact a1 k q
  · by_cases e1 : k = hh
    · rw [e1, upd_eq]
      rw [e1, upd_ne (by omega), upd_eq] at e
      rcases hv with z | z
      · rw [z] at e
        exact absurd e (by decide)
      · exact z.2
    · rw [upd_ne (by omega), upd_ne (by omega)] at e ⊢
      exact a2 k a b e
  · rw [upd_ne (by omega), upd_ne (by omega)]; exact a3 k a b
theorem pN_43 {k : Nat} {to x y : Int32} : pushN g k to x y 43 = nI (k + 1) := by unfold pushN; rw [upd_ne (by omega), upd_eq]
theorem pN_44 {k j : Nat} {to x y : Int32} (hj : j < 8) (hk : k < 8) : pushN g k to x y (44 + j) = if j = k then to else g (44 + j) := by
  unfold pushN
  rw [upd_ne (by omega), upd_ne (by omega), upd_ne (by omega), upd_ne (by omega)]
  by_cases e : j = k
  · rw [if_pos e, e, upd_eq]
  · rw [if_neg e, upd_ne (by omega)]
theorem pN_52 {k j : Nat} {to x y : Int32} (hj : j < 8) (hk : k < 8) : pushN g k to x y (52 + j) = if j = k then x else g (52 + j) := by
  unfold pushN
  rw [upd_ne (by omega), upd_ne (by omega), upd_ne (by omega)]
  by_cases e : j = k
  · rw [if_pos e, e, upd_eq]
  · rw [if_neg e, upd_ne (by omega), upd_ne (by omega)]
theorem pN_60 {k j : Nat} {to x y : Int32} (hj : j < 8) (hk : k < 8) : pushN g k to x y (60 + j) = if j = k then y else g (60 + j) := by
  unfold pushN
  rw [upd_ne (by omega), upd_ne (by omega)]
  by_cases e : j = k
  · rw [if_pos e, e, upd_eq]
  · rw [if_neg e, upd_ne (by omega), upd_ne (by omega), upd_ne (by omega)]
theorem pN_out {k j : Nat} {to x y : Int32} (hk : k < 8) (hj : j < 43 ∨ 68 ≤ j) (h2 : j ≠ 122) : pushN g k to x y j = g j := by
  unfold pushN
  rw [upd_ne h2, upd_ne (by omega), upd_ne (by omega), upd_ne (by omega), upd_ne (by omega)]
theorem ivN.push {k : Nat} {to x y : Int32} (h : ivN n g) (hk : g 43 = nI k) (k8 : k < 8) (hto : ∃ t, t < n ∧ to = nI t) : ivN n (pushN g k to x y) := by
  obtain ⟨w', w8', hw', h1, h2⟩ := h
  have ew : w' = k := (nI_eq (by omega) (by omega)).mp (hw'.symm.trans hk)
  subst ew
  refine ⟨w' + 1, by omega, pN_43, fun j hj => ?_, fun j a b => ?_⟩
  · rw [pN_44 (by omega) k8]
    by_cases e : j = w'
    · rw [if_pos e]; exact hto
    · rw [if_neg e]; exact h1 j (by omega)
  · have e : ¬ j = w' := by omega
    rw [pN_44 (by omega) k8, pN_52 (by omega) k8, pN_60 (by omega) k8, if_neg e, if_neg e, if_neg e]
    exact h2 j (by omega) b
/-- a note more, where no units go with it -/
theorem IV.note {to x y : Int32} (hn : n ≤ 6) (hf : fm ≠ 1) (hto : ∃ t, t < n ∧ to = nI t) (hy : fm = 4 → y = 0 ∨ y = nI 1) (h : IV fm n c s g) (h1 : (aNote g to x y).1 = nI 1) : IV fm n c s (aNote g to x y).2 := by
  obtain ⟨a1, a2, a3, a4, a5, a6, a7, a8⟩ := h
  obtain ⟨k, k8, hk, -, -⟩ := id a2
  unfold aNote at h1 ⊢
  rw [cnt_nI hk (by omega)] at h1 ⊢
  by_cases q : k < 8
  · rw [if_pos q]
    show IV fm n c s (pushN g k to x y)
    refine ⟨a1.cg fun j a b => pN_out q (by omega) (by omega), a2.push hk q hto, a3.cg fun j a => pN_out q (by omega) (by omega), a4.cg fun j a b => pN_out q (by omega) (by omega), fun z => (a5 z).cg (fun j a b => pN_out q (by omega) (by omega)) hn, fun z => ?_, fun z => absurd z hf, a8.cg fun j a => pN_out q (by omega) (by omega)⟩
    refine ⟨fun hh b => by rw [pN_out q (by omega) (by omega)]; exact (a6 z).1 hh b, fun i b => ?_⟩
    rw [pN_60 b q]
    split
    · exact hy z
    · exact (a6 z).2 i b
  · rw [if_neg q] at h1
    exact absurd h1 n3ne
theorem aNote_ok {to x y : Int32} (h1 : (aNote g to x y).1 = nI 1) {k : Nat} (hk : g 43 = nI k) (k8 : k ≤ 8) : k < 8 ∧ (aNote g to x y).2 = pushN g k to x y := by
  unfold aNote at h1 ⊢
  rw [cnt_nI hk (by omega)] at h1 ⊢
  by_cases q : k < 8
  · rw [if_pos q]; exact ⟨q, rfl⟩
  · rw [if_neg q] at h1
    exact absurd h1 n3ne
end IU
