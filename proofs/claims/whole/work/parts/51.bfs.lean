/-! ALL ORDERS, AS ONE PURE FUNCTION -/
/-- huts that there are not are never woken -/
def zz (n : Nat) (g : Nat → Int32) : Prop := ∀ hh, n ≤ hh → hh < 6 → g (6 + hh) = 0 ∧ g (12 + hh) = 0
section ZZ
variable {g : Nat → Int32} {kd fm n c : Nat} {nw : Nat → Int32 → Nat} {go : Nat → Int32 → Nat → Nat}
theorem zz.u {k : Nat} {x : Int32} (hg : zz n g) (hk : ∀ hh, n ≤ hh → hh < 6 → k ≠ 6 + hh ∧ k ≠ 12 + hh) : zz n (upd g k x) := fun hh a b => by
  obtain ⟨p, q⟩ := hk hh a b
  rw [upd_ne (fun e => p e.symm), upd_ne (fun e => q e.symm)]
  exact hg hh a b
theorem zz.hi {k : Nat} {x : Int32} (hg : zz n g) (hk : k < 6 ∨ 18 ≤ k) : zz n (upd g k x) := hg.u fun hh a b => by omega
theorem zz.cgg {st i : Nat} (hg : zz n g) (hs : 18 ≤ st) : zz n (cg g st i) := fun hh a b => by
  unfold cg
  rw [if_neg (by omega), if_neg (by omega), if_neg (by omega), if_neg (by omega)]
  exact hg hh a b
theorem zz.pN {k : Nat} {x y z : Int32} (hg : zz n g) : zz n (pushN g k x y z) := by
  unfold pushN
  exact ((((hg.hi (by omega)).hi (by omega)).hi (by omega)).hi (by omega)).hi (by omega)
theorem zz.pW {k : Nat} {x y z : Int32} (hg : zz n g) : zz n (pushW g k x y z) := by
  unfold pushW
  exact (((hg.hi (by omega)).hi (by omega)).hi (by omega)).hi (by omega)
theorem zz.note {x y z : Int32} (hg : zz n g) : zz n (aNote g x y z).2 := by
  unfold aNote
  split
  · exact hg.pN
  · exact hg
theorem zz.tW {i : Nat} (hg : zz n g) : zz n (takeW g i) := by
  unfold takeW
  exact (((hg.hi (by omega)).cgg (by omega)).cgg (by omega)).cgg (by omega)
theorem zz.tN {i : Nat} (hg : zz n g) : zz n (takeN g i) := by
  unfold takeN
  exact (((hg.hi (by omega)).cgg (by omega)).cgg (by omega)).cgg (by omega)
theorem zz.sg {hh : Nat} (hg : zz n g) (q : hh < n) : zz n (sG fm g hh) := by
  have h0 : zz n (sG0 g hh) := (hg.u fun h a b => by omega).hi (by omega)
  unfold sG
  split
  · unfold puR puG
    split
    · exact h0.hi (by omega)
    · exact ((h0.hi (by omega)).hi (by omega)).hi (by omega)
  · split
    · exact h0.hi (by omega)
    · split
      · exact h0.hi (by omega)
      · split
        · exact h0.hi (by omega)
        · exact h0
theorem zz.goOn {hh : Nat} (hg : zz n g) (q : hh < n) (q6 : hh < 6) : zz n (aGoOn fm n nw go g hh).2 := by
  unfold aGoOn
  split
  · exact hg
  · split
    · split
      · split
        · exact hg.hi (by omega)
        · split
          · exact hg.hi (by omega)
          · exact ((hg.hi (by omega)).hi (by omega)).note
      · exact hg.hi (by omega)
    · unfold aSend
      split
      · split
        · exact (hg.sg q).pW
        · exact hg.sg q
      · exact hg.sg q
theorem zz.come {i : Nat} (hg : zz n g) (q : cnt g (27 + i) < n) (n6 : n ≤ 6) : zz n (aCome fm kd g i).2 := by
  have h0 : zz n (wake (takeW g i) (cnt g (27 + i))) := by
    unfold wake
    split
    · exact ((hg.tW.hi (by omega)).u fun h a b => by omega).u fun h a b => by omega
    · exact hg.tW
  unfold aCome aCome2
  split
  · exact h0.hi (by omega)
  · split
    · unfold aJoin
      split
      · exact h0.note
      · exact (h0.hi (by omega)).hi (by omega)
    · split
      · exact (h0.hi (by omega)).hi (by omega)
      · split
        · exact h0.hi (by omega)
        · exact h0
theorem zz.cn {i : Nat} (hg : zz n g) : zz n (aCN fm kd n g i).2 := by
  have h0 : zz n (takeN g i) := hg.tN
  unfold aCN
  split
  · exact hg
  · unfold aCN2
    split
    · exact h0.hi (by omega)
    · split
      · exact h0.hi (by omega)
      · split
        · unfold aStone
          split
          · show zz n (if _ then _ else _)
            split
            · exact h0.hi (by omega)
            · exact h0
          · exact (h0.hi (by omega)).note
        · split
          · unfold aSums
            split
            · show zz n (if _ then _ else _)
              split
              · exact h0.hi (by omega)
              · exact ((h0.hi (by omega)).hi (by omega)).hi (by omega)
            · exact h0.note
          · exact h0
theorem zz.ask (hg : zz n g) : zz n (aAsk fm n g).2 := by
  unfold aAsk
  split
  · split
    · exact (hg.hi (by omega)).note
    · split
      · exact hg.note
      · exact hg
  · exact hg
theorem zz.lvs {hh : Nat} (hg : zz n g) : zz n (lvS kd g hh).2 := by
  unfold lvS
  split
  · exact (hg.note.hi (by omega)).hi (by omega)
  · exact hg
theorem zz.lvl : ∀ (d hh : Nat) (g : Nat → Int32), zz n g → zz n (lvL kd d hh g).2 := by
  intro d
  induction d with
  | zero => intro hh g hg; exact hg
  | succ d ih =>
    intro hh g hg
    unfold lvL
    split
    · exact ih _ _ hg.lvs
    · exact hg.lvs
theorem zz.fin {p : cA} (hg : zz n p.2) : zz n (aFin fm kd n p).2 := by
  have see : ∀ q : cA, zz n q.2 → zz n (aSee fm q).2 := by
    intro q hq
    unfold aSee
    split
    · exact hq.hi (by omega)
    · exact hq
  unfold aFin
  split
  · split
    · exact see _ (zz.lvl _ _ _ hg)
    · exact see _ hg
  · exact hg
theorem zz.step {s sort : Nat} {i : Int32} (hn : n ≤ 6) (hV : IV fm n c s g) (hg : zz n g) : zz n (aStep kd fm n nw go sort i g).2 := by
  obtain ⟨⟨w, w8, hw, hwt, -⟩, ⟨k, k8, hk, hkt, -⟩, -⟩ := id hV
  unfold aStep
  refine zz.fin ?_
  rcases sort with _ | _ | _ | _ | _ | sort
  · rcases ix_cases i n (by omega) with ⟨z, -⟩ | ⟨hh, hh6, rfl, z⟩
    · simp only [z]; exact hg
    · simp only [z]; exact hg.goOn hh6 (by omega)
  · simp only [cnt_nI hw (by omega)]
    rcases ix_cases i w (by omega) with ⟨z, -⟩ | ⟨j, hj, rfl, z⟩
    · simp only [z]; exact hg
    · simp only [z]
      obtain ⟨f, t, -, tn, -, et⟩ := hwt j hj
      exact hg.come (by rw [cnt_nI et (by omega)]; exact tn) hn
  · simp only [cnt_nI hk (by omega)]
    rcases ix_cases i k (by omega) with ⟨z, -⟩ | ⟨j, hj, rfl, z⟩
    · simp only [z]; exact hg
    · simp only [z]; exact hg.cn
  · show zz n (if i = 0 then aAsk fm n g else (-5, g)).2
    split
    · exact hg.ask
    · exact hg
  · simp only [cnt_nI hw (by omega)]
    rcases ix_cases i w (by omega) with ⟨z, -⟩ | ⟨j, hj, rfl, z⟩
    · simp only [z]; exact hg
    · simp only [z]; exact hg.tW
  · exact hg
theorem zz_g0 (hn0 : 0 < n) : zz n (g0 fm) := fun hh a b => by
  constructor
  · unfold g0
    rw [if_neg (by omega), if_neg (by omega), if_neg (by omega), if_neg (by omega)]
  · unfold g0
    rw [if_neg (by omega), if_neg (by omega), if_neg (by omega), if_neg (by omega)]
end ZZ
/-- states that are alike -/
abbrev alk (g g' : Nat → Int32) : Prop := ∀ c, c < 121 → g c = g' c
def fnd (G : Nat → Nat → Int32) (g : Nat → Int32) : Nat → Nat → Option Nat
  | 0, _ => none
  | d + 1, t => if alk (G t) g then some t else fnd G g d (t + 1)
/-- how many states; they; the one ahead; the step; its depth; where its steps lead; how many; too many -/
abbrev bT : Type := Nat × (Nat → Nat → Int32) × (Nat → Int32) × (Nat → Int32) × (Nat → Nat) × (Nat → Nat → Nat) × (Nat → Nat) × Bool
def bSz (b : bT) : Nat := b.1
def bG (b : bT) : Nat → Nat → Int32 := b.2.1
def bAh (b : bT) : Nat → Int32 := b.2.2.1
def bCd (b : bT) : Nat → Int32 := b.2.2.2.1
def bDp (b : bT) : Nat → Nat := b.2.2.2.2.1
def bNx (b : bT) : Nat → Nat → Nat := b.2.2.2.2.2.1
def bNs (b : bT) : Nat → Nat := b.2.2.2.2.2.2.1
def bBig (b : bT) : Bool := b.2.2.2.2.2.2.2
def bAdd (b : bT) (g : Nat → Int32) (s : Nat) (code : Nat) : bT := (bSz b + 1, xU (bG b) (bSz b) g, xU (bAh b) (bSz b) (nI s), xU (bCd b) (bSz b) (nI code), xU (bDp b) (bSz b) (bDp b s + 1), bNx b, xU (bNs b) (bSz b) 0, bBig b)
def bLink (b : bT) (s t : Nat) : bT := (bSz b, bG b, bAh b, bCd b, bDp b, xU (bNx b) s (xU (bNx b s) (bNs b s) t), xU (bNs b) s (bNs b s + 1), bBig b)
def bMark (b : bT) : bT := (bSz b, bG b, bAh b, bCd b, bDp b, bNx b, bNs b, true)
section BFS
variable (kd n : Nat) (nw : Nat → Int32 → Nat) (go : Nat → Int32 → Nat → Nat)
def bTry (b : bT) (s sort i : Nat) : bT :=
  if bBig b = true then b
  else if (aStep kd (fmo kd) n nw go sort (nI i) (bG b s)).1 = nI 1 then
    (match fnd (bG b) (aStep kd (fmo kd) n nw go sort (nI i) (bG b s)).2 (bSz b) 0 with
    | some t => bLink b s t
    | none => if bSz b < 150 then bLink (bAdd b (aStep kd (fmo kd) n nw go sort (nI i) (bG b s)).2 s (100 * sort + i)) s (bSz b) else bMark b)
  else b
def bRow (s sort : Nat) : Nat → Nat → bT → bT
  | 0, _, b => b
  | d + 1, i, b => bRow s sort d (i + 1) (bTry kd n nw go b s sort i)
def bExp (b : bT) (s : Nat) : bT := bRow kd n nw go s 3 8 0 (bRow kd n nw go s 2 8 0 (bRow kd n nw go s 1 8 0 (bRow kd n nw go s 0 8 0 b)))
def bRun : Nat → Nat → bT → bT
  | 0, _, b => b
  | f + 1, s, b => if s < bSz b then bRun f (s + 1) (if bG b s 120 = nI 1 then b else bExp kd n nw go b s) else b
def bBeg : bT := (1, fun _ => g0 (fmo kd), fun _ => -1, fun _ => nI 0, fun _ => 0, fun _ _ => 0, fun _ => 0, decide (4 < n))
def bfs : bT := bRun kd n nw go 150 0 (bBeg kd n)
end BFS
/-- what it keeps -/
def bOK (kd n : Nat) (b : bT) : Prop := 1 ≤ bSz b ∧ bSz b ≤ 150 ∧ (∀ s, s < bSz b → IV (fmo kd) n (bDp b s) 0 (bG b s) ∧ zz n (bG b s) ∧ bDp b s ≤ s) ∧ (∀ s, s < bSz b → ∀ k, k < bNs b s → bNx b s k < bSz b) ∧ (∀ s, bSz b ≤ s → bNs b s = 0) ∧ bAh b 0 = -1 ∧ bDp b 0 = 0 ∧ ∀ s, 0 < s → s < bSz b → ∃ a, a < s ∧ bAh b s = nI a ∧ bDp b s = bDp b a + 1
theorem fnd_some {G : Nat → Nat → Int32} {g : Nat → Int32} : ∀ (d t r : Nat), fnd G g d t = some r → t ≤ r ∧ r < t + d ∧ alk (G r) g := by
  intro d
  induction d with
  | zero => intro t r h; cases h
  | succ d ih =>
    intro t r h
    unfold fnd at h
    split at h
    · rename_i a
      have := Option.some.inj h
      subst this
      exact ⟨Nat.le_refl _, by omega, a⟩
    · obtain ⟨a, b, c⟩ := ih (t + 1) r h
      exact ⟨by omega, by omega, c⟩
section BOK
variable {kd n : Nat} {nw : Nat → Int32 → Nat} {go : Nat → Int32 → Nat → Nat} {b : bT}
theorem bOK.link {s t : Nat} (h : bOK kd n b) (hs : s < bSz b) (ht : t < bSz b) : bOK kd n (bLink b s t) := by
  obtain ⟨h1, h2, h3, h4, h5, h6, h7, h8⟩ := h
  refine ⟨h1, h2, h3, fun u hu k hk => ?_, fun u hu => ?_, h6, h7, h8⟩
  · have hu : u < bSz b := hu
    show xU (bNx b) s (xU (bNx b s) (bNs b s) t) u k < bSz b
    have hk : k < xU (bNs b) s (bNs b s + 1) u := hk
    by_cases e : u = s
    · subst e
      rw [xU_eq] at hk ⊢
      by_cases e2 : k = bNs b u
      · rw [e2, xU_eq]; exact ht
      · rw [xU_ne e2]; exact h4 u hu k (by omega)
    · rw [xU_ne e] at hk ⊢
      exact h4 u hu k hk
  · have hu : bSz b ≤ u := hu
    show xU (bNs b) s (bNs b s + 1) u = 0
    rw [xU_ne (by omega)]
    exact h5 u hu
theorem bOK.add {s code : Nat} {g : Nat → Int32} (h : bOK kd n b) (hs : s < bSz b) (hz : bSz b < 150) (hV : IV (fmo kd) n (bDp b s + 1) 0 g) (hg : zz n g) : bOK kd n (bAdd b g s code) := by
  obtain ⟨h1, h2, h3, h4, h5, h6, h7, h8⟩ := h
  refine ⟨by show 1 ≤ bSz b + 1; omega, by show bSz b + 1 ≤ 150; omega, fun u hu => ?_, fun u hu k hk => ?_, fun u hu => ?_, ?_, ?_, fun u u0 hu => ?_⟩
  · have hu : u < bSz b + 1 := hu
    show IV (fmo kd) n (xU (bDp b) (bSz b) (bDp b s + 1) u) 0 (xU (bG b) (bSz b) g u) ∧ zz n (xU (bG b) (bSz b) g u) ∧ xU (bDp b) (bSz b) (bDp b s + 1) u ≤ u
    by_cases e : u = bSz b
    · rw [e, xU_eq, xU_eq]
      have := (h3 s hs).2.2
      exact ⟨hV, hg, by omega⟩
    · rw [xU_ne e, xU_ne e]
      exact h3 u (by omega)
  · have hu : u < bSz b + 1 := hu
    have hk : k < xU (bNs b) (bSz b) 0 u := hk
    show bNx b u k < bSz b + 1
    by_cases e : u = bSz b
    · rw [e, xU_eq] at hk; omega
    · rw [xU_ne e] at hk
      have := h4 u (by omega) k hk
      omega
  · have hu : bSz b + 1 ≤ u := hu
    show xU (bNs b) (bSz b) 0 u = 0
    rw [xU_ne (by omega)]
    exact h5 u (by omega)
  · show xU (bAh b) (bSz b) (nI s) 0 = -1
    rw [xU_ne (by omega)]; exact h6
  · show xU (bDp b) (bSz b) (bDp b s + 1) 0 = 0
    rw [xU_ne (by omega)]; exact h7
  · have hu : u < bSz b + 1 := hu
    show ∃ a, a < u ∧ xU (bAh b) (bSz b) (nI s) u = nI a ∧ xU (bDp b) (bSz b) (bDp b s + 1) u = xU (bDp b) (bSz b) (bDp b s + 1) a + 1
    by_cases e : u = bSz b
    · exact ⟨s, by omega, by rw [e, xU_eq], by rw [e, xU_eq, xU_ne (by omega)]⟩
    · obtain ⟨a, a1, a2, a3⟩ := h8 u u0 (by omega)
      exact ⟨a, a1, by rw [xU_ne e]; exact a2, by rw [xU_ne e, xU_ne (by omega)]; exact a3⟩
theorem bOK.try {s sort i : Nat} (h : bOK kd n b) (hs : s < bSz b) (n6 : n ≤ 6) (n0 : 0 < n) (hnw : ∀ hh, hh < n → ∀ l, nw hh l ≤ 270) : bOK kd n (bTry kd n nw go b s sort i) ∧ bSz b ≤ bSz (bTry kd n nw go b s sort i) := by
  obtain ⟨V, Z, D⟩ := h.2.2.1 s hs
  have s150 := h.2.1
  unfold bTry
  split
  · exact ⟨h, Nat.le_refl _⟩
  · split
    · rename_i e
      rcases ef : fnd (bG b) (aStep kd (fmo kd) n nw go sort (nI i) (bG b s)).2 (bSz b) 0 with _ | t
      · dsimp only
        split
        · rename_i z
          refine ⟨bOK.link (bOK.add h hs z (V.step n6 n0 (fmo_lt kd) (by omega) hnw e) (Z.step n6 V)) (by show s < bSz b + 1; omega) (by show bSz b < bSz b + 1; omega), by show bSz b ≤ bSz b + 1; omega⟩
        · exact ⟨h, Nat.le_refl _⟩
      · obtain ⟨-, t2, -⟩ := fnd_some _ _ _ ef
        exact ⟨h.link hs (by omega), Nat.le_refl _⟩
    · exact ⟨h, Nat.le_refl _⟩
theorem bOK.row (n6 : n ≤ 6) (n0 : 0 < n) (hnw : ∀ hh, hh < n → ∀ l, nw hh l ≤ 270) {s sort : Nat} : ∀ (d i : Nat) (b : bT), bOK kd n b → s < bSz b → bOK kd n (bRow kd n nw go s sort d i b) ∧ bSz b ≤ bSz (bRow kd n nw go s sort d i b) := by
  intro d
  induction d with
  | zero => intro i b h _; exact ⟨h, Nat.le_refl _⟩
  | succ d ih =>
    intro i b h hs
    obtain ⟨a, c⟩ := h.try (sort := sort) (i := i) (go := go) hs n6 n0 hnw
    obtain ⟨x, y⟩ := ih (i + 1) _ a (by omega)
    exact ⟨x, Nat.le_trans c y⟩
theorem bOK.exp {s : Nat} (n6 : n ≤ 6) (n0 : 0 < n) (hnw : ∀ hh, hh < n → ∀ l, nw hh l ≤ 270) (h : bOK kd n b) (hs : s < bSz b) : bOK kd n (bExp kd n nw go b s) ∧ bSz b ≤ bSz (bExp kd n nw go b s) := by
  obtain ⟨a1, c1⟩ := bOK.row (go := go) n6 n0 hnw (s := s) (sort := 0) 8 0 b h hs
  obtain ⟨a2, c2⟩ := bOK.row (go := go) n6 n0 hnw (s := s) (sort := 1) 8 0 _ a1 (by omega)
  obtain ⟨a3, c3⟩ := bOK.row (go := go) n6 n0 hnw (s := s) (sort := 2) 8 0 _ a2 (by omega)
  obtain ⟨a4, c4⟩ := bOK.row (go := go) n6 n0 hnw (s := s) (sort := 3) 8 0 _ a3 (by omega)
  exact ⟨a4, by unfold bExp; omega⟩
theorem bOK.run (n6 : n ≤ 6) (n0 : 0 < n) (hnw : ∀ hh, hh < n → ∀ l, nw hh l ≤ 270) : ∀ (f s : Nat) (b : bT), bOK kd n b → bOK kd n (bRun kd n nw go f s b) := by
  intro f
  induction f with
  | zero => intro s b h; exact h
  | succ f ih =>
    intro s b h
    unfold bRun
    split
    · rename_i hs
      refine ih _ _ ?_
      split
      · exact h
      · exact (bOK.exp n6 n0 hnw h hs).1
    · exact h
theorem bOK.beg (n0 : 0 < n) : bOK kd n (bBeg kd n) :=
  ⟨Nat.le_refl _, by show 1 ≤ 150; omega, fun s hs => ⟨IV_g0 n0, zz_g0 n0, Nat.zero_le _⟩, fun s hs k hk => absurd hk (Nat.not_lt_zero _), fun _ _ => rfl, rfl, rfl, fun s s0 hs => by have : s < 1 := hs; omega⟩
theorem bfs_ok (n6 : n ≤ 6) (n0 : 0 < n) (hnw : ∀ hh, hh < n → ∀ l, nw hh l ≤ 270) : bOK kd n (bfs kd n nw go) := bOK.run n6 n0 hnw 150 0 _ (bOK.beg n0)
/-- steps that are refused change nothing -/
theorem bTry_no {s sort i : Nat} (e : ¬ (aStep kd (fmo kd) n nw go sort (nI i) (bG b s)).1 = nI 1) : bTry kd n nw go b s sort i = b := by
  unfold bTry
  by_cases z : bBig b = true
  · rw [if_pos z]
  · rw [if_neg z, if_neg e]
theorem bTry_big {s sort i : Nat} (e : bBig b = true) : bTry kd n nw go b s sort i = b := if_pos e
theorem bRow_big {s sort : Nat} : ∀ (d i : Nat) (b : bT), bBig b = true → bRow kd n nw go s sort d i b = b := by
  intro d
  induction d with
  | zero => intro i b _; rfl
  | succ d ih =>
    intro i b e
    show bRow kd n nw go s sort d (i + 1) (bTry kd n nw go b s sort i) = b
    rw [bTry_big e]
    exact ih (i + 1) b e
theorem bExp_big {s : Nat} (e : bBig b = true) : bExp kd n nw go b s = b := by
  unfold bExp
  rw [bRow_big 8 0 b e, bRow_big 8 0 b e, bRow_big 8 0 b e, bRow_big 8 0 b e]
theorem bRun_big : ∀ (f s : Nat) (b : bT), bBig b = true → bRun kd n nw go f s b = b := by
  intro f
  induction f with
  | zero => intro s b _; rfl
  | succ f ih =>
    intro s b e
    unfold bRun
    rw [bExp_big e]
    split
    · split
      · exact ih _ _ e
      · exact ih _ _ e
    · rfl
/-- how many numbers a sort has in a state -/
def lim (n : Nat) (g : Nat → Int32) (sort : Nat) : Nat := match sort with
  | 0 => n
  | 1 => cnt g 18
  | 2 => cnt g 43
  | _ => 1
theorem lim_8 {g : Nat → Int32} {c : Nat} (hV : IV (fmo kd) n c 0 g) (n6 : n ≤ 6) (sort : Nat) : lim n g sort ≤ 8 := by
  obtain ⟨⟨w, w8, hw, -⟩, ⟨k, k8, hk, -⟩, -⟩ := hV
  rcases sort with _ | _ | _ | _
  · show n ≤ 8; omega
  · show cnt g 18 ≤ 8; rw [cnt_nI hw (by omega)]; exact w8
  · show cnt g 43 ≤ 8; rw [cnt_nI hk (by omega)]; exact k8
  · show 1 ≤ 8; omega
theorem step_out {g : Nat → Int32} {c sort i : Nat} (hV : IV (fmo kd) n c 0 g) (n6 : n ≤ 6) (hs : sort < 4) (hi : lim n g sort ≤ i) (i8 : i < 1000) : ¬ (aStep kd (fmo kd) n nw go sort (nI i) g).1 = nI 1 := by
  have no : ∀ k, k ≤ 100 → k ≤ i → ix (nI i) k = none := fun k hk hi => by
    unfold ix
    rw [if_pos (Or.inr (by rw [nI_cl (by omega)]; exact hi))]
  have fin : (aFin (fmo kd) kd n (-5, g)).1 = -5 := by
    unfold aFin
    rw [if_neg n5ne]
  obtain ⟨⟨w, w8, hw, -⟩, ⟨k, k8, hk, -⟩, -⟩ := hV
  rcases (show sort = 0 ∨ sort = 1 ∨ sort = 2 ∨ sort = 3 by omega) with rfl | rfl | rfl | rfl
  · have hi : n ≤ i := hi
    unfold aStep
    simp only [no n (by omega) hi]
    rw [fin]; exact n5ne
  · have hi : cnt g 18 ≤ i := hi
    unfold aStep
    rw [cnt_nI hw (by omega)] at hi ⊢
    simp only [no w (by omega) hi]
    rw [fin]; exact n5ne
  · have hi : cnt g 43 ≤ i := hi
    unfold aStep
    rw [cnt_nI hk (by omega)] at hi ⊢
    simp only [no k (by omega) hi]
    rw [fin]; exact n5ne
  · have hi : 1 ≤ i := hi
    unfold aStep
    have e : ¬ nI i = 0 := nI_ne0 (by omega) (by omega)
    simp only [eq_false e, if_false]
    rw [fin]; exact n5ne
end BOK
